def S_Orders : List ZSh := [.inl (3, [(2, some 1), (2, some 44), (2, some 45), (0, none), (1, none)]), .inr (2, 7, [some 2, some 8, some 14, some 20, some 26, some 32, some 38]), .inl (0, [(2, some 3), (2, some 4), (2, some 5), (2, some 6), (2, some 7), (0, none), (0, none), (3, none)]), .inr (0, 7, []), .inr (1, 32, []), .inr (0, 24, []), .inr (1, 4, []), .inr (1, 6, []), .inl (0, [(2, some 9), (2, some 10), (2, some 11), (2, some 12), (2, some 13), (0, none), (0, none), (3, none)]), .inr (0, 7, []), .inr (1, 32, []), .inr (0, 24, []), .inr (1, 4, []), .inr (1, 6, []), .inl (0, [(2, some 15), (2, some 16), (2, some 17), (2, some 18), (2, some 19), (0, none), (0, none), (3, none)]), .inr (0, 7, []), .inr (1, 32, []), .inr (0, 24, []), .inr (1, 4, []), .inr (1, 6, []), .inl (0, [(2, some 21), (2, some 22), (2, some 23), (2, some 24), (2, some 25), (0, none), (0, none), (3, none)]), .inr (0, 7, []), .inr (1, 32, []), .inr (0, 24, []), .inr (1, 4, []), .inr (1, 6, []), .inl (0, [(2, some 27), (2, some 28), (2, some 29), (2, some 30), (2, some 31), (0, none), (0, none), (3, none)]), .inr (0, 7, []), .inr (1, 32, []), .inr (0, 24, []), .inr (1, 4, []), .inr (1, 6, []), .inl (0, [(2, some 33), (2, some 34), (2, some 35), (2, some 36), (2, some 37), (0, none), (0, none), (3, none)]), .inr (0, 7, []), .inr (1, 32, []), .inr (0, 24, []), .inr (1, 4, []), .inr (1, 6, []), .inl (0, [(2, some 39), (2, some 40), (2, some 41), (2, some 42), (2, some 43), (0, none), (0, none), (3, none)]), .inr (0, 7, []), .inr (1, 32, []), .inr (0, 24, []), .inr (1, 4, []), .inr (1, 6, []), .inr (0, 6, []), .inr (0, 6, []), .inl (0, [(2, some 47), (2, some 48), (2, some 49), (2, some 50), (2, some 51), (0, none), (0, none), (3, none)]), .inr (0, 7, []), .inr (1, 32, []), .inr (0, 24, []), .inr (1, 4, []), .inr (1, 6, [])]
theorem S_Orders_wf : zWfS S_Orders.length S_Orders = true ∧ Nat.ble S_Orders.length 1000 = true := ⟨by decide +kernel, rfl⟩
theorem sb_28 : zSub S_Orders [2, 3, 4, 5, 6, 7, 46, 47, 48, 49, 50, 51] S_Books2 := ⟨rfl, by decide +kernel, by decide +kernel, rfl⟩
theorem sb_29 : zSub S_Orders [46, 47, 48, 49, 50, 51] S_Books3 := ⟨rfl, by decide +kernel, by decide +kernel, rfl⟩
/-! java/lang/Integer.bitCount(I)I -/
def cf_Integer_bitCount : ZCf := (yJ6_bitCount_0f7a4, cJ6_bitCount_0f7a4, 1, some .int, [], 2, 0, 0, [], none)
theorem cal_Integer_bitCount : zCallee cf_Integer_bitCount 1 := ⟨rfl, zc_yJ6_bitCount_0f7a4, by decide, by decide, by decide +kernel⟩
def F_Integer_bitCount (a0 : Int) (μ : ZMem) : Option ZRes := zLet ((a0 - (zand (zushr a0 1) 1431655765))) (fun x1 => zLet (((zand x1 858993459) + (zand (zushr x1 2) 858993459))) (fun x2 => zLet ((zand (x2 + (zushr x2 4)) 252645135)) (fun x3 => zLet ((x3 + (zushr x3 8))) (fun x4 => zLet ((x4 + (zushr x4 16))) (fun x5 => some (.inr (some (zI (zand x5 63))), μ))))))
set_option maxRecDepth 100000 in
theorem w_Integer_bitCount (a0 : Int) (μ : ZMem) : AW cf_Integer_bitCount S_E.length S_E S_E 0 [(0, zI a0)] [] μ 0 0 (F_Integer_bitCount a0 μ) := by
  unfold F_Integer_bitCount
  refine AW.iload_n (i := 0) (a := a0) (by decide +kernel) rfl (?_ : AW _ _ _ _ 1 _ _ _ _ _ _)
  refine AW.iload_n (i := 0) (a := a0) (by decide +kernel) rfl (?_ : AW _ _ _ _ 2 _ _ _ _ _ _)
  refine AW.iconst (n := 1) (by decide +kernel) (?_ : AW _ _ _ _ 3 _ _ _ _ _ _)
  refine AW.iushr (by decide +kernel) (?_ : AW _ _ _ _ 4 _ _ _ _ _ _)
  refine AW.ldcw (idx := 265) (v := 1431655765) (by decide +kernel) zk_J6_265 (?_ : AW _ _ _ _ 7 _ _ _ _ _ _)
  refine AW.iand (by decide +kernel) (?_ : AW _ _ _ _ 8 _ _ _ _ _ _)
  refine AW.isub (by decide +kernel) (?_ : AW _ _ _ _ 9 _ _ _ _ _ _)
  refine AW.istoreL_n (i := 0) (L' := fun x1 => [(0, zI x1)]) (by decide +kernel) (by decide) (fun _ => rfl) (fun x1 => (?_ : AW _ _ _ _ 10 _ _ _ _ _ _))
  refine AW.iload_n (i := 0) (a := x1) (by decide +kernel) rfl (?_ : AW _ _ _ _ 11 _ _ _ _ _ _)
  refine AW.ldcw (idx := 266) (v := 858993459) (by decide +kernel) zk_J6_266 (?_ : AW _ _ _ _ 14 _ _ _ _ _ _)
  refine AW.iand (by decide +kernel) (?_ : AW _ _ _ _ 15 _ _ _ _ _ _)
  refine AW.iload_n (i := 0) (a := x1) (by decide +kernel) rfl (?_ : AW _ _ _ _ 16 _ _ _ _ _ _)
  refine AW.iconst (n := 2) (by decide +kernel) (?_ : AW _ _ _ _ 17 _ _ _ _ _ _)
  refine AW.iushr (by decide +kernel) (?_ : AW _ _ _ _ 18 _ _ _ _ _ _)
  refine AW.ldcw (idx := 266) (v := 858993459) (by decide +kernel) zk_J6_266 (?_ : AW _ _ _ _ 21 _ _ _ _ _ _)
  refine AW.iand (by decide +kernel) (?_ : AW _ _ _ _ 22 _ _ _ _ _ _)
  refine AW.iadd (by decide +kernel) (?_ : AW _ _ _ _ 23 _ _ _ _ _ _)
  refine AW.istoreL_n (i := 0) (L' := fun x2 => [(0, zI x2)]) (by decide +kernel) (by decide) (fun _ => rfl) (fun x2 => (?_ : AW _ _ _ _ 24 _ _ _ _ _ _))
  refine AW.iload_n (i := 0) (a := x2) (by decide +kernel) rfl (?_ : AW _ _ _ _ 25 _ _ _ _ _ _)
  refine AW.iload_n (i := 0) (a := x2) (by decide +kernel) rfl (?_ : AW _ _ _ _ 26 _ _ _ _ _ _)
  refine AW.iconst (n := 4) (by decide +kernel) (?_ : AW _ _ _ _ 27 _ _ _ _ _ _)
  refine AW.iushr (by decide +kernel) (?_ : AW _ _ _ _ 28 _ _ _ _ _ _)
  refine AW.iadd (by decide +kernel) (?_ : AW _ _ _ _ 29 _ _ _ _ _ _)
  refine AW.ldcw (idx := 267) (v := 252645135) (by decide +kernel) zk_J6_267 (?_ : AW _ _ _ _ 32 _ _ _ _ _ _)
  refine AW.iand (by decide +kernel) (?_ : AW _ _ _ _ 33 _ _ _ _ _ _)
  refine AW.istoreL_n (i := 0) (L' := fun x3 => [(0, zI x3)]) (by decide +kernel) (by decide) (fun _ => rfl) (fun x3 => (?_ : AW _ _ _ _ 34 _ _ _ _ _ _))
  refine AW.iload_n (i := 0) (a := x3) (by decide +kernel) rfl (?_ : AW _ _ _ _ 35 _ _ _ _ _ _)
  refine AW.iload_n (i := 0) (a := x3) (by decide +kernel) rfl (?_ : AW _ _ _ _ 36 _ _ _ _ _ _)
  refine AW.bipush (n := 8) (by decide +kernel) (by decide +kernel) (?_ : AW _ _ _ _ 38 _ _ _ _ _ _)
  refine AW.iushr (by decide +kernel) (?_ : AW _ _ _ _ 39 _ _ _ _ _ _)
  refine AW.iadd (by decide +kernel) (?_ : AW _ _ _ _ 40 _ _ _ _ _ _)
  refine AW.istoreL_n (i := 0) (L' := fun x4 => [(0, zI x4)]) (by decide +kernel) (by decide) (fun _ => rfl) (fun x4 => (?_ : AW _ _ _ _ 41 _ _ _ _ _ _))
  refine AW.iload_n (i := 0) (a := x4) (by decide +kernel) rfl (?_ : AW _ _ _ _ 42 _ _ _ _ _ _)
  refine AW.iload_n (i := 0) (a := x4) (by decide +kernel) rfl (?_ : AW _ _ _ _ 43 _ _ _ _ _ _)
  refine AW.bipush (n := 16) (by decide +kernel) (by decide +kernel) (?_ : AW _ _ _ _ 45 _ _ _ _ _ _)
  refine AW.iushr (by decide +kernel) (?_ : AW _ _ _ _ 46 _ _ _ _ _ _)
  refine AW.iadd (by decide +kernel) (?_ : AW _ _ _ _ 47 _ _ _ _ _ _)
  refine AW.istoreL_n (i := 0) (L' := fun x5 => [(0, zI x5)]) (by decide +kernel) (by decide) (fun _ => rfl) (fun x5 => (?_ : AW _ _ _ _ 48 _ _ _ _ _ _))
  refine AW.iload_n (i := 0) (a := x5) (by decide +kernel) rfl (?_ : AW _ _ _ _ 49 _ _ _ _ _ _)
  refine AW.bipush (n := 63) (by decide +kernel) (by decide +kernel) (?_ : AW _ _ _ _ 51 _ _ _ _ _ _)
  refine AW.iand (by decide +kernel) (?_ : AW _ _ _ _ 52 _ _ _ _ _ _)
  exact AW.reti (by decide +kernel) rfl (by decide) (by decide)
theorem c_Integer_bitCount (l : Launch) (hl : l.stackTraces = false) (a0 : Int) (μ : ZMem) (r : ZRes) (h : F_Integer_bitCount a0 μ = some r) : ZC l cf_Integer_bitCount S_E S_E [zI a0] μ r := ZC.of hl (by decide +kernel) rfl rfl (fun _ h => absurd h List.not_mem_nil) (Nat.le_of_ble_eq_true rfl) h (w_Integer_bitCount a0 μ)
def S_Orders2 : List ZSh := [.inl (3, [(2, some 1), (2, some 44), (2, some 45), (0, none), (1, none)]), .inr (2, 7, [some 2, some 8, some 14, some 20, some 26, some 32, some 38]), .inl (0, [(2, some 3), (2, some 4), (2, some 5), (2, some 6), (2, some 7), (0, none), (0, none), (3, none)]), .inr (0, 7, []), .inr (1, 32, []), .inr (0, 24, []), .inr (1, 4, []), .inr (1, 6, []), .inl (0, [(2, some 9), (2, some 10), (2, some 11), (2, some 12), (2, some 13), (0, none), (0, none), (3, none)]), .inr (0, 7, []), .inr (1, 32, []), .inr (0, 24, []), .inr (1, 4, []), .inr (1, 6, []), .inl (0, [(2, some 15), (2, some 16), (2, some 17), (2, some 18), (2, some 19), (0, none), (0, none), (3, none)]), .inr (0, 7, []), .inr (1, 32, []), .inr (0, 24, []), .inr (1, 4, []), .inr (1, 6, []), .inl (0, [(2, some 21), (2, some 22), (2, some 23), (2, some 24), (2, some 25), (0, none), (0, none), (3, none)]), .inr (0, 7, []), .inr (1, 32, []), .inr (0, 24, []), .inr (1, 4, []), .inr (1, 6, []), .inl (0, [(2, some 27), (2, some 28), (2, some 29), (2, some 30), (2, some 31), (0, none), (0, none), (3, none)]), .inr (0, 7, []), .inr (1, 32, []), .inr (0, 24, []), .inr (1, 4, []), .inr (1, 6, []), .inl (0, [(2, some 33), (2, some 34), (2, some 35), (2, some 36), (2, some 37), (0, none), (0, none), (3, none)]), .inr (0, 7, []), .inr (1, 32, []), .inr (0, 24, []), .inr (1, 4, []), .inr (1, 6, []), .inl (0, [(2, some 39), (2, some 40), (2, some 41), (2, some 42), (2, some 43), (0, none), (0, none), (3, none)]), .inr (0, 7, []), .inr (1, 32, []), .inr (0, 24, []), .inr (1, 4, []), .inr (1, 6, []), .inr (0, 6, []), .inr (0, 6, [])]
theorem S_Orders2_wf : zWfS S_Orders2.length S_Orders2 = true ∧ Nat.ble S_Orders2.length 1000 = true := ⟨by decide +kernel, rfl⟩
theorem sb_30 : zSub S_Orders2 [2, 3, 4, 5, 6, 7] S_Books3 := ⟨rfl, by decide +kernel, by decide +kernel, rfl⟩
theorem sb_31 : zSub S_Orders2 [8, 9, 10, 11, 12, 13, 2, 3, 4, 5, 6, 7] S_Books2 := ⟨rfl, by decide +kernel, by decide +kernel, rfl⟩
theorem sb_32 : zSub S_Orders2 [8, 9, 10, 11, 12, 13] S_Books3 := ⟨rfl, by decide +kernel, by decide +kernel, rfl⟩
theorem sb_33 : zSub S_Orders2 [14, 15, 16, 17, 18, 19, 8, 9, 10, 11, 12, 13] S_Books2 := ⟨rfl, by decide +kernel, by decide +kernel, rfl⟩
theorem sb_34 : zSub S_Orders2 [14, 15, 16, 17, 18, 19] S_Books3 := ⟨rfl, by decide +kernel, by decide +kernel, rfl⟩
theorem sb_35 : zSub S_Orders2 [20, 21, 22, 23, 24, 25, 14, 15, 16, 17, 18, 19] S_Books2 := ⟨rfl, by decide +kernel, by decide +kernel, rfl⟩
theorem sb_36 : zSub S_Orders2 [20, 21, 22, 23, 24, 25] S_Books3 := ⟨rfl, by decide +kernel, by decide +kernel, rfl⟩
theorem sb_37 : zSub S_Orders2 [26, 27, 28, 29, 30, 31, 20, 21, 22, 23, 24, 25] S_Books2 := ⟨rfl, by decide +kernel, by decide +kernel, rfl⟩
theorem sb_38 : zSub S_Orders2 [26, 27, 28, 29, 30, 31] S_Books3 := ⟨rfl, by decide +kernel, by decide +kernel, rfl⟩
theorem sb_39 : zSub S_Orders2 [32, 33, 34, 35, 36, 37, 26, 27, 28, 29, 30, 31] S_Books2 := ⟨rfl, by decide +kernel, by decide +kernel, rfl⟩
theorem sb_40 : zSub S_Orders2 [32, 33, 34, 35, 36, 37] S_Books3 := ⟨rfl, by decide +kernel, by decide +kernel, rfl⟩
theorem sb_41 : zSub S_Orders2 [38, 39, 40, 41, 42, 43, 32, 33, 34, 35, 36, 37] S_Books2 := ⟨rfl, by decide +kernel, by decide +kernel, rfl⟩
theorem sb_42 : zSub S_Orders2 [38, 39, 40, 41, 42, 43] S_Books3 := ⟨rfl, by decide +kernel, by decide +kernel, rfl⟩
/-! WeirLedger$Orders.tryFrom(I)V -/
def cf_Orders_tryFrom_6 : ZCf := (yX3_tryFrom, cX3_tryFrom, 5, none, [], 2, 0, 0, zft_X3, none)
theorem cal_Orders_tryFrom_6 : zCallee cf_Orders_tryFrom_6 1 := ⟨rfl, zc_yX3_tryFrom, by decide, by decide, by decide +kernel⟩
def J_Orders_tryFrom_6_21 (μ : ZMem) : Option ZRes := zRd μ 42 4 0 (fun x1 => if w64 x1 ≤ w64 (μ 0 4) then (some (.inr none, μ)) else (zRd μ 42 4 0 (fun x2 => zLet (zUp μ 0 4 x2) (fun μ3 => zLet (zCopy μ3 44 45 6) (fun μ4 => some (.inr none, μ4))))))
set_option maxRecDepth 100000 in
theorem j_Orders_tryFrom_6_21 (μ : ZMem) : AW cf_Orders_tryFrom_6 S_Orders2.length S_Orders2 S_Orders2 21 [(0, zR (some 0)), (2, zR (some 38))] [] μ 0 0 (J_Orders_tryFrom_6_21 μ) := by
  unfold J_Orders_tryFrom_6_21
  refine AW.aload_n (i := 2) (a := 38) (by decide +kernel) rfl (?_ : AW _ _ _ _ 22 _ _ _ _ _ _)
  refine AW.getR (idx := 53) (ci := 0) (k := 3) (r := 38) (by decide +kernel) rfl rfl rfl (?_ : AW _ _ _ _ 25 _ _ _ _ _ _)
  refine AW.iconst (n := 0) (by decide +kernel) (?_ : AW _ _ _ _ 26 _ _ _ _ _ _)
  refine AW.lald (r := 42) (by decide +kernel) rfl (fun x1 => (?_ : AW _ _ _ _ 27 _ _ _ _ _ _))
  refine AW.aload_n (i := 0) (a := 0) (by decide +kernel) rfl (?_ : AW _ _ _ _ 28 _ _ _ _ _ _)
  refine AW.getJ (idx := 45) (ci := 3) (k := 4) (r := 0) (by decide +kernel) rfl rfl rfl (?_ : AW _ _ _ _ 31 _ _ _ _ _ _)
  refine AW.lcmp_le (off := 28) (tgt := 60) (by decide +kernel) (by decide +kernel) (by decide) (fun _ => ?_) (fun _ => ?_)
  · exact AW.retv (by decide +kernel) rfl (by decide) (by decide)
  · refine AW.aload_n (i := 0) (a := 0) (by decide +kernel) rfl (?_ : AW _ _ _ _ 36 _ _ _ _ _ _)
    refine AW.aload_n (i := 2) (a := 38) (by decide +kernel) rfl (?_ : AW _ _ _ _ 37 _ _ _ _ _ _)
    refine AW.getR (idx := 53) (ci := 0) (k := 3) (r := 38) (by decide +kernel) rfl rfl rfl (?_ : AW _ _ _ _ 40 _ _ _ _ _ _)
    refine AW.iconst (n := 0) (by decide +kernel) (?_ : AW _ _ _ _ 41 _ _ _ _ _ _)
    refine AW.lald (r := 42) (by decide +kernel) rfl (fun x2 => (?_ : AW _ _ _ _ 42 _ _ _ _ _ _))
    refine AW.putlL (idx := 45) (ci := 3) (k := 4) (r := 0) (by decide +kernel) rfl rfl rfl (fun μ3 => (?_ : AW _ _ _ _ 45 _ _ _ _ _ _))
    refine AW.aload_n (i := 0) (a := 0) (by decide +kernel) rfl (?_ : AW _ _ _ _ 46 _ _ _ _ _ _)
    refine AW.getR (idx := 17) (ci := 3) (k := 1) (r := 0) (by decide +kernel) rfl rfl rfl (?_ : AW _ _ _ _ 49 _ _ _ _ _ _)
    refine AW.iconst (n := 0) (by decide +kernel) (?_ : AW _ _ _ _ 50 _ _ _ _ _ _)
    refine AW.aload_n (i := 0) (a := 0) (by decide +kernel) rfl (?_ : AW _ _ _ _ 51 _ _ _ _ _ _)
    refine AW.getR (idx := 21) (ci := 3) (k := 2) (r := 0) (by decide +kernel) rfl rfl rfl (?_ : AW _ _ _ _ 54 _ _ _ _ _ _)
    refine AW.iconst (n := 0) (by decide +kernel) (?_ : AW _ _ _ _ 55 _ _ _ _ _ _)
    refine AW.bipush (n := 6) (by decide +kernel) (by decide +kernel) (?_ : AW _ _ _ _ 57 _ _ _ _ _ _)
    refine AW.copyI (idx := 57) (r0 := 44) (r1 := 45) (n := 6) (by decide +kernel) zm_X3_57 rfl rfl (by decide) (by decide) rfl (fun μ4 => (?_ : AW _ _ _ _ 60 _ _ _ _ _ _))
    exact AW.retv (by decide +kernel) rfl (by decide) (by decide)
def F_Orders_tryFrom_6 (μ : ZMem) : Option ZRes := if w32 (μ 0 3) ≤ w32 6 then (J_Orders_tryFrom_6_21 μ) else (J_Orders_tryFrom_6_21 μ)
set_option maxRecDepth 100000 in
theorem w_Orders_tryFrom_6 (μ : ZMem) : AW cf_Orders_tryFrom_6 S_Orders2.length S_Orders2 S_Orders2 0 [(0, zR (some 0)), (1, zI 6)] [] μ 0 0 (F_Orders_tryFrom_6 μ) := by
  unfold F_Orders_tryFrom_6
  refine AW.aload_n (i := 0) (a := 0) (by decide +kernel) rfl (?_ : AW _ _ _ _ 1 _ _ _ _ _ _)
  refine AW.getR (idx := 11) (ci := 3) (k := 0) (r := 0) (by decide +kernel) rfl rfl rfl (?_ : AW _ _ _ _ 4 _ _ _ _ _ _)
  refine AW.iload_n (i := 1) (a := 6) (by decide +kernel) rfl (?_ : AW _ _ _ _ 5 _ _ _ _ _ _)
  refine AW.aald (r := 1) (i := 6) (x := 38) (by decide +kernel) rfl rfl (by decide) (?_ : AW _ _ _ _ 6 _ _ _ _ _ _)
  refine AW.astore_n' (i := 2) (L' := [(2, zR (some 38)), (0, zR (some 0)), (1, zI 6)]) (by decide +kernel) (by decide) rfl (?_ : AW _ _ _ _ 7 _ _ _ _ _ _)
  refine AW.iload_n (i := 1) (a := 6) (by decide +kernel) rfl (?_ : AW _ _ _ _ 8 _ _ _ _ _ _)
  refine AW.aload_n (i := 0) (a := 0) (by decide +kernel) rfl (?_ : AW _ _ _ _ 9 _ _ _ _ _ _)
  refine AW.getI (idx := 39) (ci := 3) (k := 3) (r := 0) (by decide +kernel) rfl rfl rfl (?_ : AW _ _ _ _ 12 _ _ _ _ _ _)
  refine AW.icmp_ge (off := 9) (tgt := 21) (by decide +kernel) (by decide) (fun _ => ?_) (fun _ => ?_)
  · refine AW.sub (L' := [(0, zR (some 0)), (2, zR (some 38))]) [1, 0] rfl ?_
    exact j_Orders_tryFrom_6_21 μ
  · refine AW.iload_n (i := 1) (a := 6) (by decide +kernel) rfl (?_ : AW _ _ _ _ 16 _ _ _ _ _ _)
    refine AW.bipush (n := 6) (by decide +kernel) (by decide +kernel) (?_ : AW _ _ _ _ 18 _ _ _ _ _ _)
    refine AW.neg (cnd := w32 6 < w32 6) (o1 := none) (by decide +kernel) (AW.icmp_lt (off := 43) (tgt := 61) (by decide +kernel) (by decide) (fun _ => AW.noth) (fun _ => ?_))
    refine AW.sub (L' := [(0, zR (some 0)), (2, zR (some 38))]) [1, 0] rfl ?_
    exact j_Orders_tryFrom_6_21 μ
theorem c_Orders_tryFrom_6 (l : Launch) (hl : l.stackTraces = false) (μ : ZMem) (r : ZRes) (h : F_Orders_tryFrom_6 μ = some r) : ZC l cf_Orders_tryFrom_6 S_Orders2 S_Orders2 [zR (some 0), zI 6] μ r := ZC.of hl (by decide +kernel) rfl rfl zft_X3_ok (Nat.le_of_ble_eq_true rfl) h (w_Orders_tryFrom_6 μ)
/-! WeirLedger$Orders.tryFrom(I)V -/
def cf_Orders_tryFrom_5 : ZCf := (yX3_tryFrom, cX3_tryFrom, 5, none, [], 5, 0, 0, zft_X3, none)
theorem cal_Orders_tryFrom_5 : zCallee cf_Orders_tryFrom_5 1 := ⟨rfl, zc_yX3_tryFrom, by decide, by decide, by decide +kernel⟩
def J_Orders_tryFrom_5_21 (μ : ZMem) : Option ZRes := zRd μ 36 4 0 (fun x1 => if w64 x1 ≤ w64 (μ 0 4) then (some (.inr none, μ)) else (zRd μ 36 4 0 (fun x2 => zLet (zUp μ 0 4 x2) (fun μ3 => zLet (zCopy μ3 44 45 6) (fun μ4 => some (.inr none, μ4))))))
set_option maxRecDepth 100000 in
theorem j_Orders_tryFrom_5_21 (μ : ZMem) : AW cf_Orders_tryFrom_5 S_Orders2.length S_Orders2 S_Orders2 21 [(0, zR (some 0)), (2, zR (some 32))] [] μ 0 0 (J_Orders_tryFrom_5_21 μ) := by
  unfold J_Orders_tryFrom_5_21
  refine AW.aload_n (i := 2) (a := 32) (by decide +kernel) rfl (?_ : AW _ _ _ _ 22 _ _ _ _ _ _)
  refine AW.getR (idx := 53) (ci := 0) (k := 3) (r := 32) (by decide +kernel) rfl rfl rfl (?_ : AW _ _ _ _ 25 _ _ _ _ _ _)
  refine AW.iconst (n := 0) (by decide +kernel) (?_ : AW _ _ _ _ 26 _ _ _ _ _ _)
  refine AW.lald (r := 36) (by decide +kernel) rfl (fun x1 => (?_ : AW _ _ _ _ 27 _ _ _ _ _ _))
  refine AW.aload_n (i := 0) (a := 0) (by decide +kernel) rfl (?_ : AW _ _ _ _ 28 _ _ _ _ _ _)
  refine AW.getJ (idx := 45) (ci := 3) (k := 4) (r := 0) (by decide +kernel) rfl rfl rfl (?_ : AW _ _ _ _ 31 _ _ _ _ _ _)
  refine AW.lcmp_le (off := 28) (tgt := 60) (by decide +kernel) (by decide +kernel) (by decide) (fun _ => ?_) (fun _ => ?_)
  · exact AW.retv (by decide +kernel) rfl (by decide) (by decide)
  · refine AW.aload_n (i := 0) (a := 0) (by decide +kernel) rfl (?_ : AW _ _ _ _ 36 _ _ _ _ _ _)
    refine AW.aload_n (i := 2) (a := 32) (by decide +kernel) rfl (?_ : AW _ _ _ _ 37 _ _ _ _ _ _)
    refine AW.getR (idx := 53) (ci := 0) (k := 3) (r := 32) (by decide +kernel) rfl rfl rfl (?_ : AW _ _ _ _ 40 _ _ _ _ _ _)
    refine AW.iconst (n := 0) (by decide +kernel) (?_ : AW _ _ _ _ 41 _ _ _ _ _ _)
    refine AW.lald (r := 36) (by decide +kernel) rfl (fun x2 => (?_ : AW _ _ _ _ 42 _ _ _ _ _ _))
    refine AW.putlL (idx := 45) (ci := 3) (k := 4) (r := 0) (by decide +kernel) rfl rfl rfl (fun μ3 => (?_ : AW _ _ _ _ 45 _ _ _ _ _ _))
    refine AW.aload_n (i := 0) (a := 0) (by decide +kernel) rfl (?_ : AW _ _ _ _ 46 _ _ _ _ _ _)
    refine AW.getR (idx := 17) (ci := 3) (k := 1) (r := 0) (by decide +kernel) rfl rfl rfl (?_ : AW _ _ _ _ 49 _ _ _ _ _ _)
    refine AW.iconst (n := 0) (by decide +kernel) (?_ : AW _ _ _ _ 50 _ _ _ _ _ _)
    refine AW.aload_n (i := 0) (a := 0) (by decide +kernel) rfl (?_ : AW _ _ _ _ 51 _ _ _ _ _ _)
    refine AW.getR (idx := 21) (ci := 3) (k := 2) (r := 0) (by decide +kernel) rfl rfl rfl (?_ : AW _ _ _ _ 54 _ _ _ _ _ _)
    refine AW.iconst (n := 0) (by decide +kernel) (?_ : AW _ _ _ _ 55 _ _ _ _ _ _)
    refine AW.bipush (n := 6) (by decide +kernel) (by decide +kernel) (?_ : AW _ _ _ _ 57 _ _ _ _ _ _)
    refine AW.copyI (idx := 57) (r0 := 44) (r1 := 45) (n := 6) (by decide +kernel) zm_X3_57 rfl rfl (by decide) (by decide) rfl (fun μ4 => (?_ : AW _ _ _ _ 60 _ _ _ _ _ _))
    exact AW.retv (by decide +kernel) rfl (by decide) (by decide)
def J_Orders_tryFrom_5_129 (R : Int → ZMem → Option ZRes) (K : ZMem → Option ZRes) (u4 : Int) (μ : ZMem) : Option ZRes := zLet (u4 + 1) (fun x7 => R x7 μ)
set_option maxRecDepth 100000 in
theorem j_Orders_tryFrom_5_129 {R : Int → ZMem → Option ZRes} {K : ZMem → Option ZRes} (hR : ∀ (v4 : Int) (μ : ZMem), AW cf_Orders_tryFrom_5 S_Orders2.length S_Orders2 S_Orders2 73 [(0, zR (some 0)), (1, zI 5), (2, zR (some 32)), (3, zR (some 38)), (4, zI v4)] [] μ 0 0 (R v4 μ)) (hK : ∀ (μ : ZMem), AW cf_Orders_tryFrom_5 S_Orders2.length S_Orders2 S_Orders2 135 [] [] μ 0 0 (K μ)) (u4 : Int) (μ : ZMem) : AW cf_Orders_tryFrom_5 S_Orders2.length S_Orders2 S_Orders2 129 [(0, zR (some 0)), (1, zI 5), (2, zR (some 32)), (3, zR (some 38)), (4, zI u4)] [] μ 0 0 (J_Orders_tryFrom_5_129 R K u4 μ) := by
  unfold J_Orders_tryFrom_5_129
  refine AW.iincL (i := 4) (n := 1) (a := u4) (L' := fun x7 => [(4, zI x7), (0, zR (some 0)), (1, zI 5), (2, zR (some 32)), (3, zR (some 38))]) (by decide +kernel) rfl (by decide) (fun _ => rfl) (fun x7 => (?_ : AW _ _ _ _ 132 _ _ _ _ _ _))
  refine AW.goto (off := -59) (tgt := 73) (by decide +kernel) (by decide) ?_
  refine AW.sub (L' := [(0, zR (some 0)), (1, zI 5), (2, zR (some 32)), (3, zR (some 38)), (4, zI x7)]) [1, 2, 3, 4, 0] rfl ?_
  exact hR x7 μ
def L_Orders_tryFrom_5_73 (K : ZMem → Option ZRes) : Nat → Int → ZMem → Option ZRes
  | 0, _, _ => none
  | n + 1, v4, μ => if w32 (μ 32 5) ≤ w32 v4 then (K  μ) else (zCm [32, 33, 34, 35, 36, 37] μ (F_Books_isOpen v4 (zVw [32, 33, 34, 35, 36, 37] μ)) (zkI (fun x6 μ5 => if w32 x6 = 0 then (J_Orders_tryFrom_5_129 (fun v4 μ => L_Orders_tryFrom_5_73 K n v4 μ) K v4 μ5) else (zCm [38, 39, 40, 41, 42, 43, 32, 33, 34, 35, 36, 37] μ5 (F_Books_copyFrom  (zVw [38, 39, 40, 41, 42, 43, 32, 33, 34, 35, 36, 37] μ5)) (zkV (fun μ8 => zRd μ8 35 24 ((v4 * 4) + 2) (fun x10 => zCm [38, 39, 40, 41, 42, 43] μ8 (F_Books_sellDeal v4 x10 1 (zVw [38, 39, 40, 41, 42, 43] μ8)) (zkV (fun μ11 => zWr μ11 44 6 5 v4 (fun μ13 => zC (F_Orders_tryFrom_6  μ13) (zkV (fun μ14 => J_Orders_tryFrom_5_129 (fun v4 μ => L_Orders_tryFrom_5_73 K n v4 μ) K v4 μ14)) zX0))) zX0))) zX0))) zX0)
set_option maxRecDepth 100000 in
theorem l_Orders_tryFrom_5_73 {K : ZMem → Option ZRes} (hK : ∀ (μ : ZMem), AW cf_Orders_tryFrom_5 S_Orders2.length S_Orders2 S_Orders2 135 [] [] μ 0 0 (K μ)) : ∀ (n : Nat) (v4 : Int) (μ : ZMem), AW cf_Orders_tryFrom_5 S_Orders2.length S_Orders2 S_Orders2 73 [(0, zR (some 0)), (1, zI 5), (2, zR (some 32)), (3, zR (some 38)), (4, zI v4)] [] μ 0 0 (L_Orders_tryFrom_5_73 K n v4 μ) := by
  intro n
  induction n with
  | zero => intro v4 μ; exact AW.noth
  | succ n ih =>
    intro v4 μ
    rw [L_Orders_tryFrom_5_73]
    refine AW.iload (i := 4) (a := v4) (by decide +kernel) rfl (?_ : AW _ _ _ _ 75 _ _ _ _ _ _)
    refine AW.aload_n (i := 2) (a := 32) (by decide +kernel) rfl (?_ : AW _ _ _ _ 76 _ _ _ _ _ _)
    refine AW.getI (idx := 63) (ci := 0) (k := 5) (r := 32) (by decide +kernel) rfl rfl rfl (?_ : AW _ _ _ _ 79 _ _ _ _ _ _)
    refine AW.icmp_ge (off := 56) (tgt := 135) (by decide +kernel) (by decide) (fun _ => ?_) (fun _ => ?_)
    · refine AW.sub (L' := []) [] rfl ?_
      exact hK  μ
    · refine AW.aload_n (i := 2) (a := 32) (by decide +kernel) rfl (?_ : AW _ _ _ _ 83 _ _ _ _ _ _)
      refine AW.iload (i := 4) (a := v4) (by decide +kernel) rfl (?_ : AW _ _ _ _ 85 _ _ _ _ _ _)
      refine AW.callVm (g := cf_Books_isOpen) (Sg := S_Books3) (pl := [32, 33, 34, 35, 36, 37]) (av := [zI v4]) (b0 := 0) (ci := 0) (idx := 66) (n := 1) (st := []) (by decide +kernel) (fun l hl r hr => c_Books_isOpen l hl v4 _ r hr) sb_40 rfl cal_Books_isOpen rfl (zw4 zm_X3_66 zi_yX0_isOpen zs_yX0_isOpen zn_X0) rfl rfl ⟨by decide, by decide, by decide, by decide⟩ (Nat.le_of_ble_eq_true rfl) (Or.inl rfl) (fun v μ5 => AW.rI (fun x6 => (?_ : AW _ _ _ _ 88 _ _ _ _ _ _)) v)
      refine AW.if_eq (off := 41) (tgt := 129) (by decide +kernel) (by decide) (fun _ => ?_) (fun _ => ?_)
      · exact j_Orders_tryFrom_5_129 ih hK v4 μ5
      · refine AW.aload_n (i := 3) (a := 38) (by decide +kernel) rfl (?_ : AW _ _ _ _ 92 _ _ _ _ _ _)
        refine AW.aload_n (i := 2) (a := 32) (by decide +kernel) rfl (?_ : AW _ _ _ _ 93 _ _ _ _ _ _)
        refine AW.callVm (g := cf_Books_copyFrom) (Sg := S_Books2) (pl := [38, 39, 40, 41, 42, 43, 32, 33, 34, 35, 36, 37]) (av := [zR (some 6)]) (b0 := 0) (ci := 0) (idx := 25) (n := 1) (st := []) (by decide +kernel) (fun l hl r hr => c_Books_copyFrom l hl  _ r hr) sb_41 rfl cal_Books_copyFrom rfl (zw4 zm_X3_25 zi_yX0_copyFrom zs_yX0_copyFrom zn_X0) rfl rfl ⟨by decide, by decide, by decide, by decide⟩ (Nat.le_of_ble_eq_true rfl) (Or.inl rfl) (fun v μ8 => AW.rV (?_ : AW _ _ _ _ 96 _ _ _ _ _ _) v)
        refine AW.aload_n (i := 3) (a := 38) (by decide +kernel) rfl (?_ : AW _ _ _ _ 97 _ _ _ _ _ _)
        refine AW.iload (i := 4) (a := v4) (by decide +kernel) rfl (?_ : AW _ _ _ _ 99 _ _ _ _ _ _)
        refine AW.aload_n (i := 2) (a := 32) (by decide +kernel) rfl (?_ : AW _ _ _ _ 100 _ _ _ _ _ _)
        refine AW.getR (idx := 70) (ci := 0) (k := 2) (r := 32) (by decide +kernel) rfl rfl rfl (?_ : AW _ _ _ _ 103 _ _ _ _ _ _)
        refine AW.iload (i := 4) (a := v4) (by decide +kernel) rfl (?_ : AW _ _ _ _ 105 _ _ _ _ _ _)
        refine AW.iconst (n := 4) (by decide +kernel) (?_ : AW _ _ _ _ 106 _ _ _ _ _ _)
        refine AW.imul (by decide +kernel) (?_ : AW _ _ _ _ 107 _ _ _ _ _ _)
        refine AW.iconst (n := 2) (by decide +kernel) (?_ : AW _ _ _ _ 108 _ _ _ _ _ _)
        refine AW.iadd (by decide +kernel) (?_ : AW _ _ _ _ 109 _ _ _ _ _ _)
        refine AW.iald (r := 35) (by decide +kernel) rfl (fun x10 => (?_ : AW _ _ _ _ 110 _ _ _ _ _ _))
        refine AW.iconst (n := 1) (by decide +kernel) (?_ : AW _ _ _ _ 111 _ _ _ _ _ _)
        refine AW.callVm (g := cf_Books_sellDeal) (Sg := S_Books3) (pl := [38, 39, 40, 41, 42, 43]) (av := [zI v4, zI x10, zI 1]) (b0 := 0) (ci := 0) (idx := 73) (n := 3) (st := []) (by decide +kernel) (fun l hl r hr => c_Books_sellDeal l hl v4 x10 1 _ r hr) sb_42 rfl cal_Books_sellDeal rfl (zw4 zm_X3_73 zi_yX0_sellDeal zs_yX0_sellDeal zn_X0) rfl rfl ⟨by decide, by decide, by decide, by decide⟩ (Nat.le_of_ble_eq_true rfl) (Or.inl rfl) (fun v μ11 => AW.rV (?_ : AW _ _ _ _ 114 _ _ _ _ _ _) v)
        refine AW.aload_n (i := 0) (a := 0) (by decide +kernel) rfl (?_ : AW _ _ _ _ 115 _ _ _ _ _ _)
        refine AW.getR (idx := 17) (ci := 3) (k := 1) (r := 0) (by decide +kernel) rfl rfl rfl (?_ : AW _ _ _ _ 118 _ _ _ _ _ _)
        refine AW.iload_n (i := 1) (a := 5) (by decide +kernel) rfl (?_ : AW _ _ _ _ 119 _ _ _ _ _ _)
        refine AW.iload (i := 4) (a := v4) (by decide +kernel) rfl (?_ : AW _ _ _ _ 121 _ _ _ _ _ _)
        refine AW.iastL (r := 44) (by decide +kernel) rfl (fun μ13 => (?_ : AW _ _ _ _ 122 _ _ _ _ _ _))
        refine AW.aload_n (i := 0) (a := 0) (by decide +kernel) rfl (?_ : AW _ _ _ _ 123 _ _ _ _ _ _)
        refine AW.iload_n (i := 1) (a := 5) (by decide +kernel) rfl (?_ : AW _ _ _ _ 124 _ _ _ _ _ _)
        refine AW.iconst (n := 1) (by decide +kernel) (?_ : AW _ _ _ _ 125 _ _ _ _ _ _)
        refine AW.iadd (by decide +kernel) (?_ : AW _ _ _ _ 126 _ (zI 6 :: _) _ _ _ _)
        refine AW.callVw (g := cf_Orders_tryFrom_6) (av := [zI 6]) (b0 := 0) (ci := 3) (idx := 49) (n := 1) (st := []) (by decide +kernel) (fun l hl r hr => c_Orders_tryFrom_6 l hl  _ r hr) S_Orders2_wf rfl cal_Orders_tryFrom_6 rfl (zw4 zm_X3_49 zi_yX3_tryFrom zs_yX3_tryFrom zn_X3) rfl rfl ⟨by decide, by decide, by decide, by decide⟩ (Nat.le_of_ble_eq_true rfl) (Or.inl rfl) (fun v μ14 => AW.kV (?_ : AW _ _ _ _ 129 _ _ _ _ _ _) v)
        exact j_Orders_tryFrom_5_129 ih hK v4 μ14
def F_Orders_tryFrom_5 (μ : ZMem) : Option ZRes := if w32 (μ 0 3) ≤ w32 5 then (J_Orders_tryFrom_5_21 μ) else (L_Orders_tryFrom_5_73 (fun μ16 => some (.inr none, μ16)) zN 0 μ)
set_option maxRecDepth 100000 in
theorem w_Orders_tryFrom_5 (μ : ZMem) : AW cf_Orders_tryFrom_5 S_Orders2.length S_Orders2 S_Orders2 0 [(0, zR (some 0)), (1, zI 5)] [] μ 0 0 (F_Orders_tryFrom_5 μ) := by
  unfold F_Orders_tryFrom_5
  refine AW.aload_n (i := 0) (a := 0) (by decide +kernel) rfl (?_ : AW _ _ _ _ 1 _ _ _ _ _ _)
  refine AW.getR (idx := 11) (ci := 3) (k := 0) (r := 0) (by decide +kernel) rfl rfl rfl (?_ : AW _ _ _ _ 4 _ _ _ _ _ _)
  refine AW.iload_n (i := 1) (a := 5) (by decide +kernel) rfl (?_ : AW _ _ _ _ 5 _ _ _ _ _ _)
  refine AW.aald (r := 1) (i := 5) (x := 32) (by decide +kernel) rfl rfl (by decide) (?_ : AW _ _ _ _ 6 _ _ _ _ _ _)
  refine AW.astore_n' (i := 2) (L' := [(2, zR (some 32)), (0, zR (some 0)), (1, zI 5)]) (by decide +kernel) (by decide) rfl (?_ : AW _ _ _ _ 7 _ _ _ _ _ _)
  refine AW.iload_n (i := 1) (a := 5) (by decide +kernel) rfl (?_ : AW _ _ _ _ 8 _ _ _ _ _ _)
  refine AW.aload_n (i := 0) (a := 0) (by decide +kernel) rfl (?_ : AW _ _ _ _ 9 _ _ _ _ _ _)
  refine AW.getI (idx := 39) (ci := 3) (k := 3) (r := 0) (by decide +kernel) rfl rfl rfl (?_ : AW _ _ _ _ 12 _ _ _ _ _ _)
  refine AW.icmp_ge (off := 9) (tgt := 21) (by decide +kernel) (by decide) (fun _ => ?_) (fun _ => ?_)
  · refine AW.sub (L' := [(0, zR (some 0)), (2, zR (some 32))]) [1, 0] rfl ?_
    exact j_Orders_tryFrom_5_21 μ
  · refine AW.iload_n (i := 1) (a := 5) (by decide +kernel) rfl (?_ : AW _ _ _ _ 16 _ _ _ _ _ _)
    refine AW.bipush (n := 6) (by decide +kernel) (by decide +kernel) (?_ : AW _ _ _ _ 18 _ _ _ _ _ _)
    refine AW.pos (cnd := w32 5 < w32 6) (o2 := none) (by decide +kernel) (AW.icmp_lt (off := 43) (tgt := 61) (by decide +kernel) (by decide) (fun _ => ?_) (fun _ => AW.noth))
    refine AW.aload_n (i := 0) (a := 0) (by decide +kernel) rfl (?_ : AW _ _ _ _ 62 _ _ _ _ _ _)
    refine AW.getR (idx := 11) (ci := 3) (k := 0) (r := 0) (by decide +kernel) rfl rfl rfl (?_ : AW _ _ _ _ 65 _ _ _ _ _ _)
    refine AW.iload_n (i := 1) (a := 5) (by decide +kernel) rfl (?_ : AW _ _ _ _ 66 _ _ _ _ _ _)
    refine AW.iconst (n := 1) (by decide +kernel) (?_ : AW _ _ _ _ 67 _ _ _ _ _ _)
    refine AW.iadd (by decide +kernel) (?_ : AW _ _ _ _ 68 _ (zI 6 :: _) _ _ _ _)
    refine AW.aald (r := 1) (i := 6) (x := 38) (by decide +kernel) rfl rfl (by decide) (?_ : AW _ _ _ _ 69 _ _ _ _ _ _)
    refine AW.astore_n' (i := 3) (L' := [(3, zR (some 38)), (2, zR (some 32)), (0, zR (some 0)), (1, zI 5)]) (by decide +kernel) (by decide) rfl (?_ : AW _ _ _ _ 70 _ _ _ _ _ _)
    refine AW.iconst (n := 0) (by decide +kernel) (?_ : AW _ _ _ _ 71 _ _ _ _ _ _)
    refine AW.istore' (i := 4) (L' := [(4, zI 0), (3, zR (some 38)), (2, zR (some 32)), (0, zR (some 0)), (1, zI 5)]) (by decide +kernel) (by decide) rfl (?_ : AW _ _ _ _ 73 _ _ _ _ _ _)
    refine AW.sub (L' := [(0, zR (some 0)), (1, zI 5), (2, zR (some 32)), (3, zR (some 38)), (4, zI 0)]) [3, 4, 2, 1, 0] rfl ?_
    refine l_Orders_tryFrom_5_73 (fun μ16 => ?_) zN _ _
    exact AW.retv (by decide +kernel) rfl (by decide) (by decide)
theorem c_Orders_tryFrom_5 (l : Launch) (hl : l.stackTraces = false) (μ : ZMem) (r : ZRes) (h : F_Orders_tryFrom_5 μ = some r) : ZC l cf_Orders_tryFrom_5 S_Orders2 S_Orders2 [zR (some 0), zI 5] μ r := ZC.of hl (by decide +kernel) rfl rfl zft_X3_ok (Nat.le_of_ble_eq_true rfl) h (w_Orders_tryFrom_5 μ)
/-! WeirLedger$Orders.tryFrom(I)V -/
def cf_Orders_tryFrom_4 : ZCf := (yX3_tryFrom, cX3_tryFrom, 5, none, [], 6, 0, 0, zft_X3, none)
theorem cal_Orders_tryFrom_4 : zCallee cf_Orders_tryFrom_4 1 := ⟨rfl, zc_yX3_tryFrom, by decide, by decide, by decide +kernel⟩
def J_Orders_tryFrom_4_21 (μ : ZMem) : Option ZRes := zRd μ 30 4 0 (fun x1 => if w64 x1 ≤ w64 (μ 0 4) then (some (.inr none, μ)) else (zRd μ 30 4 0 (fun x2 => zLet (zUp μ 0 4 x2) (fun μ3 => zLet (zCopy μ3 44 45 6) (fun μ4 => some (.inr none, μ4))))))
set_option maxRecDepth 100000 in
theorem j_Orders_tryFrom_4_21 (μ : ZMem) : AW cf_Orders_tryFrom_4 S_Orders2.length S_Orders2 S_Orders2 21 [(0, zR (some 0)), (2, zR (some 26))] [] μ 0 0 (J_Orders_tryFrom_4_21 μ) := by
  unfold J_Orders_tryFrom_4_21
  refine AW.aload_n (i := 2) (a := 26) (by decide +kernel) rfl (?_ : AW _ _ _ _ 22 _ _ _ _ _ _)
  refine AW.getR (idx := 53) (ci := 0) (k := 3) (r := 26) (by decide +kernel) rfl rfl rfl (?_ : AW _ _ _ _ 25 _ _ _ _ _ _)
  refine AW.iconst (n := 0) (by decide +kernel) (?_ : AW _ _ _ _ 26 _ _ _ _ _ _)
  refine AW.lald (r := 30) (by decide +kernel) rfl (fun x1 => (?_ : AW _ _ _ _ 27 _ _ _ _ _ _))
  refine AW.aload_n (i := 0) (a := 0) (by decide +kernel) rfl (?_ : AW _ _ _ _ 28 _ _ _ _ _ _)
  refine AW.getJ (idx := 45) (ci := 3) (k := 4) (r := 0) (by decide +kernel) rfl rfl rfl (?_ : AW _ _ _ _ 31 _ _ _ _ _ _)
  refine AW.lcmp_le (off := 28) (tgt := 60) (by decide +kernel) (by decide +kernel) (by decide) (fun _ => ?_) (fun _ => ?_)
  · exact AW.retv (by decide +kernel) rfl (by decide) (by decide)
  · refine AW.aload_n (i := 0) (a := 0) (by decide +kernel) rfl (?_ : AW _ _ _ _ 36 _ _ _ _ _ _)
    refine AW.aload_n (i := 2) (a := 26) (by decide +kernel) rfl (?_ : AW _ _ _ _ 37 _ _ _ _ _ _)
    refine AW.getR (idx := 53) (ci := 0) (k := 3) (r := 26) (by decide +kernel) rfl rfl rfl (?_ : AW _ _ _ _ 40 _ _ _ _ _ _)
    refine AW.iconst (n := 0) (by decide +kernel) (?_ : AW _ _ _ _ 41 _ _ _ _ _ _)
    refine AW.lald (r := 30) (by decide +kernel) rfl (fun x2 => (?_ : AW _ _ _ _ 42 _ _ _ _ _ _))
    refine AW.putlL (idx := 45) (ci := 3) (k := 4) (r := 0) (by decide +kernel) rfl rfl rfl (fun μ3 => (?_ : AW _ _ _ _ 45 _ _ _ _ _ _))
    refine AW.aload_n (i := 0) (a := 0) (by decide +kernel) rfl (?_ : AW _ _ _ _ 46 _ _ _ _ _ _)
    refine AW.getR (idx := 17) (ci := 3) (k := 1) (r := 0) (by decide +kernel) rfl rfl rfl (?_ : AW _ _ _ _ 49 _ _ _ _ _ _)
    refine AW.iconst (n := 0) (by decide +kernel) (?_ : AW _ _ _ _ 50 _ _ _ _ _ _)
    refine AW.aload_n (i := 0) (a := 0) (by decide +kernel) rfl (?_ : AW _ _ _ _ 51 _ _ _ _ _ _)
    refine AW.getR (idx := 21) (ci := 3) (k := 2) (r := 0) (by decide +kernel) rfl rfl rfl (?_ : AW _ _ _ _ 54 _ _ _ _ _ _)
    refine AW.iconst (n := 0) (by decide +kernel) (?_ : AW _ _ _ _ 55 _ _ _ _ _ _)
    refine AW.bipush (n := 6) (by decide +kernel) (by decide +kernel) (?_ : AW _ _ _ _ 57 _ _ _ _ _ _)
    refine AW.copyI (idx := 57) (r0 := 44) (r1 := 45) (n := 6) (by decide +kernel) zm_X3_57 rfl rfl (by decide) (by decide) rfl (fun μ4 => (?_ : AW _ _ _ _ 60 _ _ _ _ _ _))
    exact AW.retv (by decide +kernel) rfl (by decide) (by decide)
def J_Orders_tryFrom_4_129 (R : Int → ZMem → Option ZRes) (K : ZMem → Option ZRes) (u4 : Int) (μ : ZMem) : Option ZRes := zLet (u4 + 1) (fun x7 => R x7 μ)
set_option maxRecDepth 100000 in
theorem j_Orders_tryFrom_4_129 {R : Int → ZMem → Option ZRes} {K : ZMem → Option ZRes} (hR : ∀ (v4 : Int) (μ : ZMem), AW cf_Orders_tryFrom_4 S_Orders2.length S_Orders2 S_Orders2 73 [(0, zR (some 0)), (1, zI 4), (2, zR (some 26)), (3, zR (some 32)), (4, zI v4)] [] μ 0 0 (R v4 μ)) (hK : ∀ (μ : ZMem), AW cf_Orders_tryFrom_4 S_Orders2.length S_Orders2 S_Orders2 135 [] [] μ 0 0 (K μ)) (u4 : Int) (μ : ZMem) : AW cf_Orders_tryFrom_4 S_Orders2.length S_Orders2 S_Orders2 129 [(0, zR (some 0)), (1, zI 4), (2, zR (some 26)), (3, zR (some 32)), (4, zI u4)] [] μ 0 0 (J_Orders_tryFrom_4_129 R K u4 μ) := by
  unfold J_Orders_tryFrom_4_129
  refine AW.iincL (i := 4) (n := 1) (a := u4) (L' := fun x7 => [(4, zI x7), (0, zR (some 0)), (1, zI 4), (2, zR (some 26)), (3, zR (some 32))]) (by decide +kernel) rfl (by decide) (fun _ => rfl) (fun x7 => (?_ : AW _ _ _ _ 132 _ _ _ _ _ _))
  refine AW.goto (off := -59) (tgt := 73) (by decide +kernel) (by decide) ?_
  refine AW.sub (L' := [(0, zR (some 0)), (1, zI 4), (2, zR (some 26)), (3, zR (some 32)), (4, zI x7)]) [1, 2, 3, 4, 0] rfl ?_
  exact hR x7 μ
def L_Orders_tryFrom_4_73 (K : ZMem → Option ZRes) : Nat → Int → ZMem → Option ZRes
  | 0, _, _ => none
  | n + 1, v4, μ => if w32 (μ 26 5) ≤ w32 v4 then (K  μ) else (zCm [26, 27, 28, 29, 30, 31] μ (F_Books_isOpen v4 (zVw [26, 27, 28, 29, 30, 31] μ)) (zkI (fun x6 μ5 => if w32 x6 = 0 then (J_Orders_tryFrom_4_129 (fun v4 μ => L_Orders_tryFrom_4_73 K n v4 μ) K v4 μ5) else (zCm [32, 33, 34, 35, 36, 37, 26, 27, 28, 29, 30, 31] μ5 (F_Books_copyFrom  (zVw [32, 33, 34, 35, 36, 37, 26, 27, 28, 29, 30, 31] μ5)) (zkV (fun μ8 => zRd μ8 29 24 ((v4 * 4) + 2) (fun x10 => zCm [32, 33, 34, 35, 36, 37] μ8 (F_Books_sellDeal v4 x10 1 (zVw [32, 33, 34, 35, 36, 37] μ8)) (zkV (fun μ11 => zWr μ11 44 6 4 v4 (fun μ13 => zC (F_Orders_tryFrom_5  μ13) (zkV (fun μ14 => J_Orders_tryFrom_4_129 (fun v4 μ => L_Orders_tryFrom_4_73 K n v4 μ) K v4 μ14)) zX0))) zX0))) zX0))) zX0)
set_option maxRecDepth 100000 in
theorem l_Orders_tryFrom_4_73 {K : ZMem → Option ZRes} (hK : ∀ (μ : ZMem), AW cf_Orders_tryFrom_4 S_Orders2.length S_Orders2 S_Orders2 135 [] [] μ 0 0 (K μ)) : ∀ (n : Nat) (v4 : Int) (μ : ZMem), AW cf_Orders_tryFrom_4 S_Orders2.length S_Orders2 S_Orders2 73 [(0, zR (some 0)), (1, zI 4), (2, zR (some 26)), (3, zR (some 32)), (4, zI v4)] [] μ 0 0 (L_Orders_tryFrom_4_73 K n v4 μ) := by
  intro n
  induction n with
  | zero => intro v4 μ; exact AW.noth
  | succ n ih =>
    intro v4 μ
    rw [L_Orders_tryFrom_4_73]
    refine AW.iload (i := 4) (a := v4) (by decide +kernel) rfl (?_ : AW _ _ _ _ 75 _ _ _ _ _ _)
    refine AW.aload_n (i := 2) (a := 26) (by decide +kernel) rfl (?_ : AW _ _ _ _ 76 _ _ _ _ _ _)
    refine AW.getI (idx := 63) (ci := 0) (k := 5) (r := 26) (by decide +kernel) rfl rfl rfl (?_ : AW _ _ _ _ 79 _ _ _ _ _ _)
    refine AW.icmp_ge (off := 56) (tgt := 135) (by decide +kernel) (by decide) (fun _ => ?_) (fun _ => ?_)
    · refine AW.sub (L' := []) [] rfl ?_
      exact hK  μ
    · refine AW.aload_n (i := 2) (a := 26) (by decide +kernel) rfl (?_ : AW _ _ _ _ 83 _ _ _ _ _ _)
      refine AW.iload (i := 4) (a := v4) (by decide +kernel) rfl (?_ : AW _ _ _ _ 85 _ _ _ _ _ _)
      refine AW.callVm (g := cf_Books_isOpen) (Sg := S_Books3) (pl := [26, 27, 28, 29, 30, 31]) (av := [zI v4]) (b0 := 0) (ci := 0) (idx := 66) (n := 1) (st := []) (by decide +kernel) (fun l hl r hr => c_Books_isOpen l hl v4 _ r hr) sb_38 rfl cal_Books_isOpen rfl (zw4 zm_X3_66 zi_yX0_isOpen zs_yX0_isOpen zn_X0) rfl rfl ⟨by decide, by decide, by decide, by decide⟩ (Nat.le_of_ble_eq_true rfl) (Or.inl rfl) (fun v μ5 => AW.rI (fun x6 => (?_ : AW _ _ _ _ 88 _ _ _ _ _ _)) v)
      refine AW.if_eq (off := 41) (tgt := 129) (by decide +kernel) (by decide) (fun _ => ?_) (fun _ => ?_)
      · exact j_Orders_tryFrom_4_129 ih hK v4 μ5
      · refine AW.aload_n (i := 3) (a := 32) (by decide +kernel) rfl (?_ : AW _ _ _ _ 92 _ _ _ _ _ _)
        refine AW.aload_n (i := 2) (a := 26) (by decide +kernel) rfl (?_ : AW _ _ _ _ 93 _ _ _ _ _ _)
        refine AW.callVm (g := cf_Books_copyFrom) (Sg := S_Books2) (pl := [32, 33, 34, 35, 36, 37, 26, 27, 28, 29, 30, 31]) (av := [zR (some 6)]) (b0 := 0) (ci := 0) (idx := 25) (n := 1) (st := []) (by decide +kernel) (fun l hl r hr => c_Books_copyFrom l hl  _ r hr) sb_39 rfl cal_Books_copyFrom rfl (zw4 zm_X3_25 zi_yX0_copyFrom zs_yX0_copyFrom zn_X0) rfl rfl ⟨by decide, by decide, by decide, by decide⟩ (Nat.le_of_ble_eq_true rfl) (Or.inl rfl) (fun v μ8 => AW.rV (?_ : AW _ _ _ _ 96 _ _ _ _ _ _) v)
        refine AW.aload_n (i := 3) (a := 32) (by decide +kernel) rfl (?_ : AW _ _ _ _ 97 _ _ _ _ _ _)
        refine AW.iload (i := 4) (a := v4) (by decide +kernel) rfl (?_ : AW _ _ _ _ 99 _ _ _ _ _ _)
        refine AW.aload_n (i := 2) (a := 26) (by decide +kernel) rfl (?_ : AW _ _ _ _ 100 _ _ _ _ _ _)
        refine AW.getR (idx := 70) (ci := 0) (k := 2) (r := 26) (by decide +kernel) rfl rfl rfl (?_ : AW _ _ _ _ 103 _ _ _ _ _ _)
        refine AW.iload (i := 4) (a := v4) (by decide +kernel) rfl (?_ : AW _ _ _ _ 105 _ _ _ _ _ _)
        refine AW.iconst (n := 4) (by decide +kernel) (?_ : AW _ _ _ _ 106 _ _ _ _ _ _)
        refine AW.imul (by decide +kernel) (?_ : AW _ _ _ _ 107 _ _ _ _ _ _)
        refine AW.iconst (n := 2) (by decide +kernel) (?_ : AW _ _ _ _ 108 _ _ _ _ _ _)
        refine AW.iadd (by decide +kernel) (?_ : AW _ _ _ _ 109 _ _ _ _ _ _)
        refine AW.iald (r := 29) (by decide +kernel) rfl (fun x10 => (?_ : AW _ _ _ _ 110 _ _ _ _ _ _))
        refine AW.iconst (n := 1) (by decide +kernel) (?_ : AW _ _ _ _ 111 _ _ _ _ _ _)
        refine AW.callVm (g := cf_Books_sellDeal) (Sg := S_Books3) (pl := [32, 33, 34, 35, 36, 37]) (av := [zI v4, zI x10, zI 1]) (b0 := 0) (ci := 0) (idx := 73) (n := 3) (st := []) (by decide +kernel) (fun l hl r hr => c_Books_sellDeal l hl v4 x10 1 _ r hr) sb_40 rfl cal_Books_sellDeal rfl (zw4 zm_X3_73 zi_yX0_sellDeal zs_yX0_sellDeal zn_X0) rfl rfl ⟨by decide, by decide, by decide, by decide⟩ (Nat.le_of_ble_eq_true rfl) (Or.inl rfl) (fun v μ11 => AW.rV (?_ : AW _ _ _ _ 114 _ _ _ _ _ _) v)
        refine AW.aload_n (i := 0) (a := 0) (by decide +kernel) rfl (?_ : AW _ _ _ _ 115 _ _ _ _ _ _)
        refine AW.getR (idx := 17) (ci := 3) (k := 1) (r := 0) (by decide +kernel) rfl rfl rfl (?_ : AW _ _ _ _ 118 _ _ _ _ _ _)
        refine AW.iload_n (i := 1) (a := 4) (by decide +kernel) rfl (?_ : AW _ _ _ _ 119 _ _ _ _ _ _)
        refine AW.iload (i := 4) (a := v4) (by decide +kernel) rfl (?_ : AW _ _ _ _ 121 _ _ _ _ _ _)
        refine AW.iastL (r := 44) (by decide +kernel) rfl (fun μ13 => (?_ : AW _ _ _ _ 122 _ _ _ _ _ _))
        refine AW.aload_n (i := 0) (a := 0) (by decide +kernel) rfl (?_ : AW _ _ _ _ 123 _ _ _ _ _ _)
        refine AW.iload_n (i := 1) (a := 4) (by decide +kernel) rfl (?_ : AW _ _ _ _ 124 _ _ _ _ _ _)
        refine AW.iconst (n := 1) (by decide +kernel) (?_ : AW _ _ _ _ 125 _ _ _ _ _ _)
        refine AW.iadd (by decide +kernel) (?_ : AW _ _ _ _ 126 _ (zI 5 :: _) _ _ _ _)
        refine AW.callVw (g := cf_Orders_tryFrom_5) (av := [zI 5]) (b0 := 0) (ci := 3) (idx := 49) (n := 1) (st := []) (by decide +kernel) (fun l hl r hr => c_Orders_tryFrom_5 l hl  _ r hr) S_Orders2_wf rfl cal_Orders_tryFrom_5 rfl (zw4 zm_X3_49 zi_yX3_tryFrom zs_yX3_tryFrom zn_X3) rfl rfl ⟨by decide, by decide, by decide, by decide⟩ (Nat.le_of_ble_eq_true rfl) (Or.inl rfl) (fun v μ14 => AW.kV (?_ : AW _ _ _ _ 129 _ _ _ _ _ _) v)
        exact j_Orders_tryFrom_4_129 ih hK v4 μ14
def F_Orders_tryFrom_4 (μ : ZMem) : Option ZRes := if w32 (μ 0 3) ≤ w32 4 then (J_Orders_tryFrom_4_21 μ) else (L_Orders_tryFrom_4_73 (fun μ16 => some (.inr none, μ16)) zN 0 μ)
set_option maxRecDepth 100000 in
theorem w_Orders_tryFrom_4 (μ : ZMem) : AW cf_Orders_tryFrom_4 S_Orders2.length S_Orders2 S_Orders2 0 [(0, zR (some 0)), (1, zI 4)] [] μ 0 0 (F_Orders_tryFrom_4 μ) := by
  unfold F_Orders_tryFrom_4
  refine AW.aload_n (i := 0) (a := 0) (by decide +kernel) rfl (?_ : AW _ _ _ _ 1 _ _ _ _ _ _)
  refine AW.getR (idx := 11) (ci := 3) (k := 0) (r := 0) (by decide +kernel) rfl rfl rfl (?_ : AW _ _ _ _ 4 _ _ _ _ _ _)
  refine AW.iload_n (i := 1) (a := 4) (by decide +kernel) rfl (?_ : AW _ _ _ _ 5 _ _ _ _ _ _)
  refine AW.aald (r := 1) (i := 4) (x := 26) (by decide +kernel) rfl rfl (by decide) (?_ : AW _ _ _ _ 6 _ _ _ _ _ _)
  refine AW.astore_n' (i := 2) (L' := [(2, zR (some 26)), (0, zR (some 0)), (1, zI 4)]) (by decide +kernel) (by decide) rfl (?_ : AW _ _ _ _ 7 _ _ _ _ _ _)
  refine AW.iload_n (i := 1) (a := 4) (by decide +kernel) rfl (?_ : AW _ _ _ _ 8 _ _ _ _ _ _)
  refine AW.aload_n (i := 0) (a := 0) (by decide +kernel) rfl (?_ : AW _ _ _ _ 9 _ _ _ _ _ _)
  refine AW.getI (idx := 39) (ci := 3) (k := 3) (r := 0) (by decide +kernel) rfl rfl rfl (?_ : AW _ _ _ _ 12 _ _ _ _ _ _)
  refine AW.icmp_ge (off := 9) (tgt := 21) (by decide +kernel) (by decide) (fun _ => ?_) (fun _ => ?_)
  · refine AW.sub (L' := [(0, zR (some 0)), (2, zR (some 26))]) [1, 0] rfl ?_
    exact j_Orders_tryFrom_4_21 μ
  · refine AW.iload_n (i := 1) (a := 4) (by decide +kernel) rfl (?_ : AW _ _ _ _ 16 _ _ _ _ _ _)
    refine AW.bipush (n := 6) (by decide +kernel) (by decide +kernel) (?_ : AW _ _ _ _ 18 _ _ _ _ _ _)
    refine AW.pos (cnd := w32 4 < w32 6) (o2 := none) (by decide +kernel) (AW.icmp_lt (off := 43) (tgt := 61) (by decide +kernel) (by decide) (fun _ => ?_) (fun _ => AW.noth))
    refine AW.aload_n (i := 0) (a := 0) (by decide +kernel) rfl (?_ : AW _ _ _ _ 62 _ _ _ _ _ _)
    refine AW.getR (idx := 11) (ci := 3) (k := 0) (r := 0) (by decide +kernel) rfl rfl rfl (?_ : AW _ _ _ _ 65 _ _ _ _ _ _)
    refine AW.iload_n (i := 1) (a := 4) (by decide +kernel) rfl (?_ : AW _ _ _ _ 66 _ _ _ _ _ _)
    refine AW.iconst (n := 1) (by decide +kernel) (?_ : AW _ _ _ _ 67 _ _ _ _ _ _)
    refine AW.iadd (by decide +kernel) (?_ : AW _ _ _ _ 68 _ (zI 5 :: _) _ _ _ _)
    refine AW.aald (r := 1) (i := 5) (x := 32) (by decide +kernel) rfl rfl (by decide) (?_ : AW _ _ _ _ 69 _ _ _ _ _ _)
    refine AW.astore_n' (i := 3) (L' := [(3, zR (some 32)), (2, zR (some 26)), (0, zR (some 0)), (1, zI 4)]) (by decide +kernel) (by decide) rfl (?_ : AW _ _ _ _ 70 _ _ _ _ _ _)
    refine AW.iconst (n := 0) (by decide +kernel) (?_ : AW _ _ _ _ 71 _ _ _ _ _ _)
    refine AW.istore' (i := 4) (L' := [(4, zI 0), (3, zR (some 32)), (2, zR (some 26)), (0, zR (some 0)), (1, zI 4)]) (by decide +kernel) (by decide) rfl (?_ : AW _ _ _ _ 73 _ _ _ _ _ _)
    refine AW.sub (L' := [(0, zR (some 0)), (1, zI 4), (2, zR (some 26)), (3, zR (some 32)), (4, zI 0)]) [3, 4, 2, 1, 0] rfl ?_
    refine l_Orders_tryFrom_4_73 (fun μ16 => ?_) zN _ _
    exact AW.retv (by decide +kernel) rfl (by decide) (by decide)
theorem c_Orders_tryFrom_4 (l : Launch) (hl : l.stackTraces = false) (μ : ZMem) (r : ZRes) (h : F_Orders_tryFrom_4 μ = some r) : ZC l cf_Orders_tryFrom_4 S_Orders2 S_Orders2 [zR (some 0), zI 4] μ r := ZC.of hl (by decide +kernel) rfl rfl zft_X3_ok (Nat.le_of_ble_eq_true rfl) h (w_Orders_tryFrom_4 μ)
/-! WeirLedger$Orders.tryFrom(I)V -/
def cf_Orders_tryFrom_3 : ZCf := (yX3_tryFrom, cX3_tryFrom, 5, none, [], 7, 0, 0, zft_X3, none)
theorem cal_Orders_tryFrom_3 : zCallee cf_Orders_tryFrom_3 1 := ⟨rfl, zc_yX3_tryFrom, by decide, by decide, by decide +kernel⟩
def J_Orders_tryFrom_3_21 (μ : ZMem) : Option ZRes := zRd μ 24 4 0 (fun x1 => if w64 x1 ≤ w64 (μ 0 4) then (some (.inr none, μ)) else (zRd μ 24 4 0 (fun x2 => zLet (zUp μ 0 4 x2) (fun μ3 => zLet (zCopy μ3 44 45 6) (fun μ4 => some (.inr none, μ4))))))
set_option maxRecDepth 100000 in
theorem j_Orders_tryFrom_3_21 (μ : ZMem) : AW cf_Orders_tryFrom_3 S_Orders2.length S_Orders2 S_Orders2 21 [(0, zR (some 0)), (2, zR (some 20))] [] μ 0 0 (J_Orders_tryFrom_3_21 μ) := by
  unfold J_Orders_tryFrom_3_21
  refine AW.aload_n (i := 2) (a := 20) (by decide +kernel) rfl (?_ : AW _ _ _ _ 22 _ _ _ _ _ _)
  refine AW.getR (idx := 53) (ci := 0) (k := 3) (r := 20) (by decide +kernel) rfl rfl rfl (?_ : AW _ _ _ _ 25 _ _ _ _ _ _)
  refine AW.iconst (n := 0) (by decide +kernel) (?_ : AW _ _ _ _ 26 _ _ _ _ _ _)
  refine AW.lald (r := 24) (by decide +kernel) rfl (fun x1 => (?_ : AW _ _ _ _ 27 _ _ _ _ _ _))
  refine AW.aload_n (i := 0) (a := 0) (by decide +kernel) rfl (?_ : AW _ _ _ _ 28 _ _ _ _ _ _)
  refine AW.getJ (idx := 45) (ci := 3) (k := 4) (r := 0) (by decide +kernel) rfl rfl rfl (?_ : AW _ _ _ _ 31 _ _ _ _ _ _)
  refine AW.lcmp_le (off := 28) (tgt := 60) (by decide +kernel) (by decide +kernel) (by decide) (fun _ => ?_) (fun _ => ?_)
  · exact AW.retv (by decide +kernel) rfl (by decide) (by decide)
  · refine AW.aload_n (i := 0) (a := 0) (by decide +kernel) rfl (?_ : AW _ _ _ _ 36 _ _ _ _ _ _)
    refine AW.aload_n (i := 2) (a := 20) (by decide +kernel) rfl (?_ : AW _ _ _ _ 37 _ _ _ _ _ _)
    refine AW.getR (idx := 53) (ci := 0) (k := 3) (r := 20) (by decide +kernel) rfl rfl rfl (?_ : AW _ _ _ _ 40 _ _ _ _ _ _)
    refine AW.iconst (n := 0) (by decide +kernel) (?_ : AW _ _ _ _ 41 _ _ _ _ _ _)
    refine AW.lald (r := 24) (by decide +kernel) rfl (fun x2 => (?_ : AW _ _ _ _ 42 _ _ _ _ _ _))
    refine AW.putlL (idx := 45) (ci := 3) (k := 4) (r := 0) (by decide +kernel) rfl rfl rfl (fun μ3 => (?_ : AW _ _ _ _ 45 _ _ _ _ _ _))
    refine AW.aload_n (i := 0) (a := 0) (by decide +kernel) rfl (?_ : AW _ _ _ _ 46 _ _ _ _ _ _)
    refine AW.getR (idx := 17) (ci := 3) (k := 1) (r := 0) (by decide +kernel) rfl rfl rfl (?_ : AW _ _ _ _ 49 _ _ _ _ _ _)
    refine AW.iconst (n := 0) (by decide +kernel) (?_ : AW _ _ _ _ 50 _ _ _ _ _ _)
    refine AW.aload_n (i := 0) (a := 0) (by decide +kernel) rfl (?_ : AW _ _ _ _ 51 _ _ _ _ _ _)
    refine AW.getR (idx := 21) (ci := 3) (k := 2) (r := 0) (by decide +kernel) rfl rfl rfl (?_ : AW _ _ _ _ 54 _ _ _ _ _ _)
    refine AW.iconst (n := 0) (by decide +kernel) (?_ : AW _ _ _ _ 55 _ _ _ _ _ _)
    refine AW.bipush (n := 6) (by decide +kernel) (by decide +kernel) (?_ : AW _ _ _ _ 57 _ _ _ _ _ _)
    refine AW.copyI (idx := 57) (r0 := 44) (r1 := 45) (n := 6) (by decide +kernel) zm_X3_57 rfl rfl (by decide) (by decide) rfl (fun μ4 => (?_ : AW _ _ _ _ 60 _ _ _ _ _ _))
    exact AW.retv (by decide +kernel) rfl (by decide) (by decide)
def J_Orders_tryFrom_3_129 (R : Int → ZMem → Option ZRes) (K : ZMem → Option ZRes) (u4 : Int) (μ : ZMem) : Option ZRes := zLet (u4 + 1) (fun x7 => R x7 μ)
set_option maxRecDepth 100000 in
theorem j_Orders_tryFrom_3_129 {R : Int → ZMem → Option ZRes} {K : ZMem → Option ZRes} (hR : ∀ (v4 : Int) (μ : ZMem), AW cf_Orders_tryFrom_3 S_Orders2.length S_Orders2 S_Orders2 73 [(0, zR (some 0)), (1, zI 3), (2, zR (some 20)), (3, zR (some 26)), (4, zI v4)] [] μ 0 0 (R v4 μ)) (hK : ∀ (μ : ZMem), AW cf_Orders_tryFrom_3 S_Orders2.length S_Orders2 S_Orders2 135 [] [] μ 0 0 (K μ)) (u4 : Int) (μ : ZMem) : AW cf_Orders_tryFrom_3 S_Orders2.length S_Orders2 S_Orders2 129 [(0, zR (some 0)), (1, zI 3), (2, zR (some 20)), (3, zR (some 26)), (4, zI u4)] [] μ 0 0 (J_Orders_tryFrom_3_129 R K u4 μ) := by
  unfold J_Orders_tryFrom_3_129
  refine AW.iincL (i := 4) (n := 1) (a := u4) (L' := fun x7 => [(4, zI x7), (0, zR (some 0)), (1, zI 3), (2, zR (some 20)), (3, zR (some 26))]) (by decide +kernel) rfl (by decide) (fun _ => rfl) (fun x7 => (?_ : AW _ _ _ _ 132 _ _ _ _ _ _))
  refine AW.goto (off := -59) (tgt := 73) (by decide +kernel) (by decide) ?_
  refine AW.sub (L' := [(0, zR (some 0)), (1, zI 3), (2, zR (some 20)), (3, zR (some 26)), (4, zI x7)]) [1, 2, 3, 4, 0] rfl ?_
  exact hR x7 μ
def L_Orders_tryFrom_3_73 (K : ZMem → Option ZRes) : Nat → Int → ZMem → Option ZRes
  | 0, _, _ => none
  | n + 1, v4, μ => if w32 (μ 20 5) ≤ w32 v4 then (K  μ) else (zCm [20, 21, 22, 23, 24, 25] μ (F_Books_isOpen v4 (zVw [20, 21, 22, 23, 24, 25] μ)) (zkI (fun x6 μ5 => if w32 x6 = 0 then (J_Orders_tryFrom_3_129 (fun v4 μ => L_Orders_tryFrom_3_73 K n v4 μ) K v4 μ5) else (zCm [26, 27, 28, 29, 30, 31, 20, 21, 22, 23, 24, 25] μ5 (F_Books_copyFrom  (zVw [26, 27, 28, 29, 30, 31, 20, 21, 22, 23, 24, 25] μ5)) (zkV (fun μ8 => zRd μ8 23 24 ((v4 * 4) + 2) (fun x10 => zCm [26, 27, 28, 29, 30, 31] μ8 (F_Books_sellDeal v4 x10 1 (zVw [26, 27, 28, 29, 30, 31] μ8)) (zkV (fun μ11 => zWr μ11 44 6 3 v4 (fun μ13 => zC (F_Orders_tryFrom_4  μ13) (zkV (fun μ14 => J_Orders_tryFrom_3_129 (fun v4 μ => L_Orders_tryFrom_3_73 K n v4 μ) K v4 μ14)) zX0))) zX0))) zX0))) zX0)
set_option maxRecDepth 100000 in
theorem l_Orders_tryFrom_3_73 {K : ZMem → Option ZRes} (hK : ∀ (μ : ZMem), AW cf_Orders_tryFrom_3 S_Orders2.length S_Orders2 S_Orders2 135 [] [] μ 0 0 (K μ)) : ∀ (n : Nat) (v4 : Int) (μ : ZMem), AW cf_Orders_tryFrom_3 S_Orders2.length S_Orders2 S_Orders2 73 [(0, zR (some 0)), (1, zI 3), (2, zR (some 20)), (3, zR (some 26)), (4, zI v4)] [] μ 0 0 (L_Orders_tryFrom_3_73 K n v4 μ) := by
  intro n
  induction n with
  | zero => intro v4 μ; exact AW.noth
  | succ n ih =>
    intro v4 μ
    rw [L_Orders_tryFrom_3_73]
    refine AW.iload (i := 4) (a := v4) (by decide +kernel) rfl (?_ : AW _ _ _ _ 75 _ _ _ _ _ _)
    refine AW.aload_n (i := 2) (a := 20) (by decide +kernel) rfl (?_ : AW _ _ _ _ 76 _ _ _ _ _ _)
    refine AW.getI (idx := 63) (ci := 0) (k := 5) (r := 20) (by decide +kernel) rfl rfl rfl (?_ : AW _ _ _ _ 79 _ _ _ _ _ _)
    refine AW.icmp_ge (off := 56) (tgt := 135) (by decide +kernel) (by decide) (fun _ => ?_) (fun _ => ?_)
    · refine AW.sub (L' := []) [] rfl ?_
      exact hK  μ
    · refine AW.aload_n (i := 2) (a := 20) (by decide +kernel) rfl (?_ : AW _ _ _ _ 83 _ _ _ _ _ _)
      refine AW.iload (i := 4) (a := v4) (by decide +kernel) rfl (?_ : AW _ _ _ _ 85 _ _ _ _ _ _)
      refine AW.callVm (g := cf_Books_isOpen) (Sg := S_Books3) (pl := [20, 21, 22, 23, 24, 25]) (av := [zI v4]) (b0 := 0) (ci := 0) (idx := 66) (n := 1) (st := []) (by decide +kernel) (fun l hl r hr => c_Books_isOpen l hl v4 _ r hr) sb_36 rfl cal_Books_isOpen rfl (zw4 zm_X3_66 zi_yX0_isOpen zs_yX0_isOpen zn_X0) rfl rfl ⟨by decide, by decide, by decide, by decide⟩ (Nat.le_of_ble_eq_true rfl) (Or.inl rfl) (fun v μ5 => AW.rI (fun x6 => (?_ : AW _ _ _ _ 88 _ _ _ _ _ _)) v)
      refine AW.if_eq (off := 41) (tgt := 129) (by decide +kernel) (by decide) (fun _ => ?_) (fun _ => ?_)
      · exact j_Orders_tryFrom_3_129 ih hK v4 μ5
      · refine AW.aload_n (i := 3) (a := 26) (by decide +kernel) rfl (?_ : AW _ _ _ _ 92 _ _ _ _ _ _)
        refine AW.aload_n (i := 2) (a := 20) (by decide +kernel) rfl (?_ : AW _ _ _ _ 93 _ _ _ _ _ _)
        refine AW.callVm (g := cf_Books_copyFrom) (Sg := S_Books2) (pl := [26, 27, 28, 29, 30, 31, 20, 21, 22, 23, 24, 25]) (av := [zR (some 6)]) (b0 := 0) (ci := 0) (idx := 25) (n := 1) (st := []) (by decide +kernel) (fun l hl r hr => c_Books_copyFrom l hl  _ r hr) sb_37 rfl cal_Books_copyFrom rfl (zw4 zm_X3_25 zi_yX0_copyFrom zs_yX0_copyFrom zn_X0) rfl rfl ⟨by decide, by decide, by decide, by decide⟩ (Nat.le_of_ble_eq_true rfl) (Or.inl rfl) (fun v μ8 => AW.rV (?_ : AW _ _ _ _ 96 _ _ _ _ _ _) v)
        refine AW.aload_n (i := 3) (a := 26) (by decide +kernel) rfl (?_ : AW _ _ _ _ 97 _ _ _ _ _ _)
        refine AW.iload (i := 4) (a := v4) (by decide +kernel) rfl (?_ : AW _ _ _ _ 99 _ _ _ _ _ _)
        refine AW.aload_n (i := 2) (a := 20) (by decide +kernel) rfl (?_ : AW _ _ _ _ 100 _ _ _ _ _ _)
        refine AW.getR (idx := 70) (ci := 0) (k := 2) (r := 20) (by decide +kernel) rfl rfl rfl (?_ : AW _ _ _ _ 103 _ _ _ _ _ _)
        refine AW.iload (i := 4) (a := v4) (by decide +kernel) rfl (?_ : AW _ _ _ _ 105 _ _ _ _ _ _)
        refine AW.iconst (n := 4) (by decide +kernel) (?_ : AW _ _ _ _ 106 _ _ _ _ _ _)
        refine AW.imul (by decide +kernel) (?_ : AW _ _ _ _ 107 _ _ _ _ _ _)
        refine AW.iconst (n := 2) (by decide +kernel) (?_ : AW _ _ _ _ 108 _ _ _ _ _ _)
        refine AW.iadd (by decide +kernel) (?_ : AW _ _ _ _ 109 _ _ _ _ _ _)
        refine AW.iald (r := 23) (by decide +kernel) rfl (fun x10 => (?_ : AW _ _ _ _ 110 _ _ _ _ _ _))
        refine AW.iconst (n := 1) (by decide +kernel) (?_ : AW _ _ _ _ 111 _ _ _ _ _ _)
        refine AW.callVm (g := cf_Books_sellDeal) (Sg := S_Books3) (pl := [26, 27, 28, 29, 30, 31]) (av := [zI v4, zI x10, zI 1]) (b0 := 0) (ci := 0) (idx := 73) (n := 3) (st := []) (by decide +kernel) (fun l hl r hr => c_Books_sellDeal l hl v4 x10 1 _ r hr) sb_38 rfl cal_Books_sellDeal rfl (zw4 zm_X3_73 zi_yX0_sellDeal zs_yX0_sellDeal zn_X0) rfl rfl ⟨by decide, by decide, by decide, by decide⟩ (Nat.le_of_ble_eq_true rfl) (Or.inl rfl) (fun v μ11 => AW.rV (?_ : AW _ _ _ _ 114 _ _ _ _ _ _) v)
        refine AW.aload_n (i := 0) (a := 0) (by decide +kernel) rfl (?_ : AW _ _ _ _ 115 _ _ _ _ _ _)
        refine AW.getR (idx := 17) (ci := 3) (k := 1) (r := 0) (by decide +kernel) rfl rfl rfl (?_ : AW _ _ _ _ 118 _ _ _ _ _ _)
        refine AW.iload_n (i := 1) (a := 3) (by decide +kernel) rfl (?_ : AW _ _ _ _ 119 _ _ _ _ _ _)
        refine AW.iload (i := 4) (a := v4) (by decide +kernel) rfl (?_ : AW _ _ _ _ 121 _ _ _ _ _ _)
        refine AW.iastL (r := 44) (by decide +kernel) rfl (fun μ13 => (?_ : AW _ _ _ _ 122 _ _ _ _ _ _))
        refine AW.aload_n (i := 0) (a := 0) (by decide +kernel) rfl (?_ : AW _ _ _ _ 123 _ _ _ _ _ _)
        refine AW.iload_n (i := 1) (a := 3) (by decide +kernel) rfl (?_ : AW _ _ _ _ 124 _ _ _ _ _ _)
        refine AW.iconst (n := 1) (by decide +kernel) (?_ : AW _ _ _ _ 125 _ _ _ _ _ _)
        refine AW.iadd (by decide +kernel) (?_ : AW _ _ _ _ 126 _ (zI 4 :: _) _ _ _ _)
        refine AW.callVw (g := cf_Orders_tryFrom_4) (av := [zI 4]) (b0 := 0) (ci := 3) (idx := 49) (n := 1) (st := []) (by decide +kernel) (fun l hl r hr => c_Orders_tryFrom_4 l hl  _ r hr) S_Orders2_wf rfl cal_Orders_tryFrom_4 rfl (zw4 zm_X3_49 zi_yX3_tryFrom zs_yX3_tryFrom zn_X3) rfl rfl ⟨by decide, by decide, by decide, by decide⟩ (Nat.le_of_ble_eq_true rfl) (Or.inl rfl) (fun v μ14 => AW.kV (?_ : AW _ _ _ _ 129 _ _ _ _ _ _) v)
        exact j_Orders_tryFrom_3_129 ih hK v4 μ14
def F_Orders_tryFrom_3 (μ : ZMem) : Option ZRes := if w32 (μ 0 3) ≤ w32 3 then (J_Orders_tryFrom_3_21 μ) else (L_Orders_tryFrom_3_73 (fun μ16 => some (.inr none, μ16)) zN 0 μ)
set_option maxRecDepth 100000 in
theorem w_Orders_tryFrom_3 (μ : ZMem) : AW cf_Orders_tryFrom_3 S_Orders2.length S_Orders2 S_Orders2 0 [(0, zR (some 0)), (1, zI 3)] [] μ 0 0 (F_Orders_tryFrom_3 μ) := by
  unfold F_Orders_tryFrom_3
  refine AW.aload_n (i := 0) (a := 0) (by decide +kernel) rfl (?_ : AW _ _ _ _ 1 _ _ _ _ _ _)
  refine AW.getR (idx := 11) (ci := 3) (k := 0) (r := 0) (by decide +kernel) rfl rfl rfl (?_ : AW _ _ _ _ 4 _ _ _ _ _ _)
  refine AW.iload_n (i := 1) (a := 3) (by decide +kernel) rfl (?_ : AW _ _ _ _ 5 _ _ _ _ _ _)
  refine AW.aald (r := 1) (i := 3) (x := 20) (by decide +kernel) rfl rfl (by decide) (?_ : AW _ _ _ _ 6 _ _ _ _ _ _)
  refine AW.astore_n' (i := 2) (L' := [(2, zR (some 20)), (0, zR (some 0)), (1, zI 3)]) (by decide +kernel) (by decide) rfl (?_ : AW _ _ _ _ 7 _ _ _ _ _ _)
  refine AW.iload_n (i := 1) (a := 3) (by decide +kernel) rfl (?_ : AW _ _ _ _ 8 _ _ _ _ _ _)
  refine AW.aload_n (i := 0) (a := 0) (by decide +kernel) rfl (?_ : AW _ _ _ _ 9 _ _ _ _ _ _)
  refine AW.getI (idx := 39) (ci := 3) (k := 3) (r := 0) (by decide +kernel) rfl rfl rfl (?_ : AW _ _ _ _ 12 _ _ _ _ _ _)
  refine AW.icmp_ge (off := 9) (tgt := 21) (by decide +kernel) (by decide) (fun _ => ?_) (fun _ => ?_)
  · refine AW.sub (L' := [(0, zR (some 0)), (2, zR (some 20))]) [1, 0] rfl ?_
    exact j_Orders_tryFrom_3_21 μ
  · refine AW.iload_n (i := 1) (a := 3) (by decide +kernel) rfl (?_ : AW _ _ _ _ 16 _ _ _ _ _ _)
    refine AW.bipush (n := 6) (by decide +kernel) (by decide +kernel) (?_ : AW _ _ _ _ 18 _ _ _ _ _ _)
    refine AW.pos (cnd := w32 3 < w32 6) (o2 := none) (by decide +kernel) (AW.icmp_lt (off := 43) (tgt := 61) (by decide +kernel) (by decide) (fun _ => ?_) (fun _ => AW.noth))
    refine AW.aload_n (i := 0) (a := 0) (by decide +kernel) rfl (?_ : AW _ _ _ _ 62 _ _ _ _ _ _)
    refine AW.getR (idx := 11) (ci := 3) (k := 0) (r := 0) (by decide +kernel) rfl rfl rfl (?_ : AW _ _ _ _ 65 _ _ _ _ _ _)
    refine AW.iload_n (i := 1) (a := 3) (by decide +kernel) rfl (?_ : AW _ _ _ _ 66 _ _ _ _ _ _)
    refine AW.iconst (n := 1) (by decide +kernel) (?_ : AW _ _ _ _ 67 _ _ _ _ _ _)
    refine AW.iadd (by decide +kernel) (?_ : AW _ _ _ _ 68 _ (zI 4 :: _) _ _ _ _)
    refine AW.aald (r := 1) (i := 4) (x := 26) (by decide +kernel) rfl rfl (by decide) (?_ : AW _ _ _ _ 69 _ _ _ _ _ _)
    refine AW.astore_n' (i := 3) (L' := [(3, zR (some 26)), (2, zR (some 20)), (0, zR (some 0)), (1, zI 3)]) (by decide +kernel) (by decide) rfl (?_ : AW _ _ _ _ 70 _ _ _ _ _ _)
    refine AW.iconst (n := 0) (by decide +kernel) (?_ : AW _ _ _ _ 71 _ _ _ _ _ _)
    refine AW.istore' (i := 4) (L' := [(4, zI 0), (3, zR (some 26)), (2, zR (some 20)), (0, zR (some 0)), (1, zI 3)]) (by decide +kernel) (by decide) rfl (?_ : AW _ _ _ _ 73 _ _ _ _ _ _)
    refine AW.sub (L' := [(0, zR (some 0)), (1, zI 3), (2, zR (some 20)), (3, zR (some 26)), (4, zI 0)]) [3, 4, 2, 1, 0] rfl ?_
    refine l_Orders_tryFrom_3_73 (fun μ16 => ?_) zN _ _
    exact AW.retv (by decide +kernel) rfl (by decide) (by decide)
theorem c_Orders_tryFrom_3 (l : Launch) (hl : l.stackTraces = false) (μ : ZMem) (r : ZRes) (h : F_Orders_tryFrom_3 μ = some r) : ZC l cf_Orders_tryFrom_3 S_Orders2 S_Orders2 [zR (some 0), zI 3] μ r := ZC.of hl (by decide +kernel) rfl rfl zft_X3_ok (Nat.le_of_ble_eq_true rfl) h (w_Orders_tryFrom_3 μ)
/-! WeirLedger$Orders.tryFrom(I)V -/
def cf_Orders_tryFrom_2 : ZCf := (yX3_tryFrom, cX3_tryFrom, 5, none, [], 8, 0, 0, zft_X3, none)
theorem cal_Orders_tryFrom_2 : zCallee cf_Orders_tryFrom_2 1 := ⟨rfl, zc_yX3_tryFrom, by decide, by decide, by decide +kernel⟩
def J_Orders_tryFrom_2_21 (μ : ZMem) : Option ZRes := zRd μ 18 4 0 (fun x1 => if w64 x1 ≤ w64 (μ 0 4) then (some (.inr none, μ)) else (zRd μ 18 4 0 (fun x2 => zLet (zUp μ 0 4 x2) (fun μ3 => zLet (zCopy μ3 44 45 6) (fun μ4 => some (.inr none, μ4))))))
set_option maxRecDepth 100000 in
theorem j_Orders_tryFrom_2_21 (μ : ZMem) : AW cf_Orders_tryFrom_2 S_Orders2.length S_Orders2 S_Orders2 21 [(0, zR (some 0)), (2, zR (some 14))] [] μ 0 0 (J_Orders_tryFrom_2_21 μ) := by
  unfold J_Orders_tryFrom_2_21
  refine AW.aload_n (i := 2) (a := 14) (by decide +kernel) rfl (?_ : AW _ _ _ _ 22 _ _ _ _ _ _)
  refine AW.getR (idx := 53) (ci := 0) (k := 3) (r := 14) (by decide +kernel) rfl rfl rfl (?_ : AW _ _ _ _ 25 _ _ _ _ _ _)
  refine AW.iconst (n := 0) (by decide +kernel) (?_ : AW _ _ _ _ 26 _ _ _ _ _ _)
  refine AW.lald (r := 18) (by decide +kernel) rfl (fun x1 => (?_ : AW _ _ _ _ 27 _ _ _ _ _ _))
  refine AW.aload_n (i := 0) (a := 0) (by decide +kernel) rfl (?_ : AW _ _ _ _ 28 _ _ _ _ _ _)
  refine AW.getJ (idx := 45) (ci := 3) (k := 4) (r := 0) (by decide +kernel) rfl rfl rfl (?_ : AW _ _ _ _ 31 _ _ _ _ _ _)
  refine AW.lcmp_le (off := 28) (tgt := 60) (by decide +kernel) (by decide +kernel) (by decide) (fun _ => ?_) (fun _ => ?_)
  · exact AW.retv (by decide +kernel) rfl (by decide) (by decide)
  · refine AW.aload_n (i := 0) (a := 0) (by decide +kernel) rfl (?_ : AW _ _ _ _ 36 _ _ _ _ _ _)
    refine AW.aload_n (i := 2) (a := 14) (by decide +kernel) rfl (?_ : AW _ _ _ _ 37 _ _ _ _ _ _)
    refine AW.getR (idx := 53) (ci := 0) (k := 3) (r := 14) (by decide +kernel) rfl rfl rfl (?_ : AW _ _ _ _ 40 _ _ _ _ _ _)
    refine AW.iconst (n := 0) (by decide +kernel) (?_ : AW _ _ _ _ 41 _ _ _ _ _ _)
    refine AW.lald (r := 18) (by decide +kernel) rfl (fun x2 => (?_ : AW _ _ _ _ 42 _ _ _ _ _ _))
    refine AW.putlL (idx := 45) (ci := 3) (k := 4) (r := 0) (by decide +kernel) rfl rfl rfl (fun μ3 => (?_ : AW _ _ _ _ 45 _ _ _ _ _ _))
    refine AW.aload_n (i := 0) (a := 0) (by decide +kernel) rfl (?_ : AW _ _ _ _ 46 _ _ _ _ _ _)
    refine AW.getR (idx := 17) (ci := 3) (k := 1) (r := 0) (by decide +kernel) rfl rfl rfl (?_ : AW _ _ _ _ 49 _ _ _ _ _ _)
    refine AW.iconst (n := 0) (by decide +kernel) (?_ : AW _ _ _ _ 50 _ _ _ _ _ _)
    refine AW.aload_n (i := 0) (a := 0) (by decide +kernel) rfl (?_ : AW _ _ _ _ 51 _ _ _ _ _ _)
    refine AW.getR (idx := 21) (ci := 3) (k := 2) (r := 0) (by decide +kernel) rfl rfl rfl (?_ : AW _ _ _ _ 54 _ _ _ _ _ _)
    refine AW.iconst (n := 0) (by decide +kernel) (?_ : AW _ _ _ _ 55 _ _ _ _ _ _)
    refine AW.bipush (n := 6) (by decide +kernel) (by decide +kernel) (?_ : AW _ _ _ _ 57 _ _ _ _ _ _)
    refine AW.copyI (idx := 57) (r0 := 44) (r1 := 45) (n := 6) (by decide +kernel) zm_X3_57 rfl rfl (by decide) (by decide) rfl (fun μ4 => (?_ : AW _ _ _ _ 60 _ _ _ _ _ _))
    exact AW.retv (by decide +kernel) rfl (by decide) (by decide)
def J_Orders_tryFrom_2_129 (R : Int → ZMem → Option ZRes) (K : ZMem → Option ZRes) (u4 : Int) (μ : ZMem) : Option ZRes := zLet (u4 + 1) (fun x7 => R x7 μ)
set_option maxRecDepth 100000 in
theorem j_Orders_tryFrom_2_129 {R : Int → ZMem → Option ZRes} {K : ZMem → Option ZRes} (hR : ∀ (v4 : Int) (μ : ZMem), AW cf_Orders_tryFrom_2 S_Orders2.length S_Orders2 S_Orders2 73 [(0, zR (some 0)), (1, zI 2), (2, zR (some 14)), (3, zR (some 20)), (4, zI v4)] [] μ 0 0 (R v4 μ)) (hK : ∀ (μ : ZMem), AW cf_Orders_tryFrom_2 S_Orders2.length S_Orders2 S_Orders2 135 [] [] μ 0 0 (K μ)) (u4 : Int) (μ : ZMem) : AW cf_Orders_tryFrom_2 S_Orders2.length S_Orders2 S_Orders2 129 [(0, zR (some 0)), (1, zI 2), (2, zR (some 14)), (3, zR (some 20)), (4, zI u4)] [] μ 0 0 (J_Orders_tryFrom_2_129 R K u4 μ) := by
  unfold J_Orders_tryFrom_2_129
  refine AW.iincL (i := 4) (n := 1) (a := u4) (L' := fun x7 => [(4, zI x7), (0, zR (some 0)), (1, zI 2), (2, zR (some 14)), (3, zR (some 20))]) (by decide +kernel) rfl (by decide) (fun _ => rfl) (fun x7 => (?_ : AW _ _ _ _ 132 _ _ _ _ _ _))
  refine AW.goto (off := -59) (tgt := 73) (by decide +kernel) (by decide) ?_
  refine AW.sub (L' := [(0, zR (some 0)), (1, zI 2), (2, zR (some 14)), (3, zR (some 20)), (4, zI x7)]) [1, 2, 3, 4, 0] rfl ?_
  exact hR x7 μ
def L_Orders_tryFrom_2_73 (K : ZMem → Option ZRes) : Nat → Int → ZMem → Option ZRes
  | 0, _, _ => none
  | n + 1, v4, μ => if w32 (μ 14 5) ≤ w32 v4 then (K  μ) else (zCm [14, 15, 16, 17, 18, 19] μ (F_Books_isOpen v4 (zVw [14, 15, 16, 17, 18, 19] μ)) (zkI (fun x6 μ5 => if w32 x6 = 0 then (J_Orders_tryFrom_2_129 (fun v4 μ => L_Orders_tryFrom_2_73 K n v4 μ) K v4 μ5) else (zCm [20, 21, 22, 23, 24, 25, 14, 15, 16, 17, 18, 19] μ5 (F_Books_copyFrom  (zVw [20, 21, 22, 23, 24, 25, 14, 15, 16, 17, 18, 19] μ5)) (zkV (fun μ8 => zRd μ8 17 24 ((v4 * 4) + 2) (fun x10 => zCm [20, 21, 22, 23, 24, 25] μ8 (F_Books_sellDeal v4 x10 1 (zVw [20, 21, 22, 23, 24, 25] μ8)) (zkV (fun μ11 => zWr μ11 44 6 2 v4 (fun μ13 => zC (F_Orders_tryFrom_3  μ13) (zkV (fun μ14 => J_Orders_tryFrom_2_129 (fun v4 μ => L_Orders_tryFrom_2_73 K n v4 μ) K v4 μ14)) zX0))) zX0))) zX0))) zX0)
set_option maxRecDepth 100000 in
theorem l_Orders_tryFrom_2_73 {K : ZMem → Option ZRes} (hK : ∀ (μ : ZMem), AW cf_Orders_tryFrom_2 S_Orders2.length S_Orders2 S_Orders2 135 [] [] μ 0 0 (K μ)) : ∀ (n : Nat) (v4 : Int) (μ : ZMem), AW cf_Orders_tryFrom_2 S_Orders2.length S_Orders2 S_Orders2 73 [(0, zR (some 0)), (1, zI 2), (2, zR (some 14)), (3, zR (some 20)), (4, zI v4)] [] μ 0 0 (L_Orders_tryFrom_2_73 K n v4 μ) := by
  intro n
  induction n with
  | zero => intro v4 μ; exact AW.noth
  | succ n ih =>
    intro v4 μ
    rw [L_Orders_tryFrom_2_73]
    refine AW.iload (i := 4) (a := v4) (by decide +kernel) rfl (?_ : AW _ _ _ _ 75 _ _ _ _ _ _)
    refine AW.aload_n (i := 2) (a := 14) (by decide +kernel) rfl (?_ : AW _ _ _ _ 76 _ _ _ _ _ _)
    refine AW.getI (idx := 63) (ci := 0) (k := 5) (r := 14) (by decide +kernel) rfl rfl rfl (?_ : AW _ _ _ _ 79 _ _ _ _ _ _)
    refine AW.icmp_ge (off := 56) (tgt := 135) (by decide +kernel) (by decide) (fun _ => ?_) (fun _ => ?_)
    · refine AW.sub (L' := []) [] rfl ?_
      exact hK  μ
    · refine AW.aload_n (i := 2) (a := 14) (by decide +kernel) rfl (?_ : AW _ _ _ _ 83 _ _ _ _ _ _)
      refine AW.iload (i := 4) (a := v4) (by decide +kernel) rfl (?_ : AW _ _ _ _ 85 _ _ _ _ _ _)
      refine AW.callVm (g := cf_Books_isOpen) (Sg := S_Books3) (pl := [14, 15, 16, 17, 18, 19]) (av := [zI v4]) (b0 := 0) (ci := 0) (idx := 66) (n := 1) (st := []) (by decide +kernel) (fun l hl r hr => c_Books_isOpen l hl v4 _ r hr) sb_34 rfl cal_Books_isOpen rfl (zw4 zm_X3_66 zi_yX0_isOpen zs_yX0_isOpen zn_X0) rfl rfl ⟨by decide, by decide, by decide, by decide⟩ (Nat.le_of_ble_eq_true rfl) (Or.inl rfl) (fun v μ5 => AW.rI (fun x6 => (?_ : AW _ _ _ _ 88 _ _ _ _ _ _)) v)
      refine AW.if_eq (off := 41) (tgt := 129) (by decide +kernel) (by decide) (fun _ => ?_) (fun _ => ?_)
      · exact j_Orders_tryFrom_2_129 ih hK v4 μ5
      · refine AW.aload_n (i := 3) (a := 20) (by decide +kernel) rfl (?_ : AW _ _ _ _ 92 _ _ _ _ _ _)
        refine AW.aload_n (i := 2) (a := 14) (by decide +kernel) rfl (?_ : AW _ _ _ _ 93 _ _ _ _ _ _)
        refine AW.callVm (g := cf_Books_copyFrom) (Sg := S_Books2) (pl := [20, 21, 22, 23, 24, 25, 14, 15, 16, 17, 18, 19]) (av := [zR (some 6)]) (b0 := 0) (ci := 0) (idx := 25) (n := 1) (st := []) (by decide +kernel) (fun l hl r hr => c_Books_copyFrom l hl  _ r hr) sb_35 rfl cal_Books_copyFrom rfl (zw4 zm_X3_25 zi_yX0_copyFrom zs_yX0_copyFrom zn_X0) rfl rfl ⟨by decide, by decide, by decide, by decide⟩ (Nat.le_of_ble_eq_true rfl) (Or.inl rfl) (fun v μ8 => AW.rV (?_ : AW _ _ _ _ 96 _ _ _ _ _ _) v)
        refine AW.aload_n (i := 3) (a := 20) (by decide +kernel) rfl (?_ : AW _ _ _ _ 97 _ _ _ _ _ _)
        refine AW.iload (i := 4) (a := v4) (by decide +kernel) rfl (?_ : AW _ _ _ _ 99 _ _ _ _ _ _)
        refine AW.aload_n (i := 2) (a := 14) (by decide +kernel) rfl (?_ : AW _ _ _ _ 100 _ _ _ _ _ _)
        refine AW.getR (idx := 70) (ci := 0) (k := 2) (r := 14) (by decide +kernel) rfl rfl rfl (?_ : AW _ _ _ _ 103 _ _ _ _ _ _)
        refine AW.iload (i := 4) (a := v4) (by decide +kernel) rfl (?_ : AW _ _ _ _ 105 _ _ _ _ _ _)
        refine AW.iconst (n := 4) (by decide +kernel) (?_ : AW _ _ _ _ 106 _ _ _ _ _ _)
        refine AW.imul (by decide +kernel) (?_ : AW _ _ _ _ 107 _ _ _ _ _ _)
        refine AW.iconst (n := 2) (by decide +kernel) (?_ : AW _ _ _ _ 108 _ _ _ _ _ _)
        refine AW.iadd (by decide +kernel) (?_ : AW _ _ _ _ 109 _ _ _ _ _ _)
        refine AW.iald (r := 17) (by decide +kernel) rfl (fun x10 => (?_ : AW _ _ _ _ 110 _ _ _ _ _ _))
        refine AW.iconst (n := 1) (by decide +kernel) (?_ : AW _ _ _ _ 111 _ _ _ _ _ _)
        refine AW.callVm (g := cf_Books_sellDeal) (Sg := S_Books3) (pl := [20, 21, 22, 23, 24, 25]) (av := [zI v4, zI x10, zI 1]) (b0 := 0) (ci := 0) (idx := 73) (n := 3) (st := []) (by decide +kernel) (fun l hl r hr => c_Books_sellDeal l hl v4 x10 1 _ r hr) sb_36 rfl cal_Books_sellDeal rfl (zw4 zm_X3_73 zi_yX0_sellDeal zs_yX0_sellDeal zn_X0) rfl rfl ⟨by decide, by decide, by decide, by decide⟩ (Nat.le_of_ble_eq_true rfl) (Or.inl rfl) (fun v μ11 => AW.rV (?_ : AW _ _ _ _ 114 _ _ _ _ _ _) v)
        refine AW.aload_n (i := 0) (a := 0) (by decide +kernel) rfl (?_ : AW _ _ _ _ 115 _ _ _ _ _ _)
        refine AW.getR (idx := 17) (ci := 3) (k := 1) (r := 0) (by decide +kernel) rfl rfl rfl (?_ : AW _ _ _ _ 118 _ _ _ _ _ _)
        refine AW.iload_n (i := 1) (a := 2) (by decide +kernel) rfl (?_ : AW _ _ _ _ 119 _ _ _ _ _ _)
        refine AW.iload (i := 4) (a := v4) (by decide +kernel) rfl (?_ : AW _ _ _ _ 121 _ _ _ _ _ _)
        refine AW.iastL (r := 44) (by decide +kernel) rfl (fun μ13 => (?_ : AW _ _ _ _ 122 _ _ _ _ _ _))
        refine AW.aload_n (i := 0) (a := 0) (by decide +kernel) rfl (?_ : AW _ _ _ _ 123 _ _ _ _ _ _)
        refine AW.iload_n (i := 1) (a := 2) (by decide +kernel) rfl (?_ : AW _ _ _ _ 124 _ _ _ _ _ _)
        refine AW.iconst (n := 1) (by decide +kernel) (?_ : AW _ _ _ _ 125 _ _ _ _ _ _)
        refine AW.iadd (by decide +kernel) (?_ : AW _ _ _ _ 126 _ (zI 3 :: _) _ _ _ _)
        refine AW.callVw (g := cf_Orders_tryFrom_3) (av := [zI 3]) (b0 := 0) (ci := 3) (idx := 49) (n := 1) (st := []) (by decide +kernel) (fun l hl r hr => c_Orders_tryFrom_3 l hl  _ r hr) S_Orders2_wf rfl cal_Orders_tryFrom_3 rfl (zw4 zm_X3_49 zi_yX3_tryFrom zs_yX3_tryFrom zn_X3) rfl rfl ⟨by decide, by decide, by decide, by decide⟩ (Nat.le_of_ble_eq_true rfl) (Or.inl rfl) (fun v μ14 => AW.kV (?_ : AW _ _ _ _ 129 _ _ _ _ _ _) v)
        exact j_Orders_tryFrom_2_129 ih hK v4 μ14
def F_Orders_tryFrom_2 (μ : ZMem) : Option ZRes := if w32 (μ 0 3) ≤ w32 2 then (J_Orders_tryFrom_2_21 μ) else (L_Orders_tryFrom_2_73 (fun μ16 => some (.inr none, μ16)) zN 0 μ)
set_option maxRecDepth 100000 in
theorem w_Orders_tryFrom_2 (μ : ZMem) : AW cf_Orders_tryFrom_2 S_Orders2.length S_Orders2 S_Orders2 0 [(0, zR (some 0)), (1, zI 2)] [] μ 0 0 (F_Orders_tryFrom_2 μ) := by
  unfold F_Orders_tryFrom_2
  refine AW.aload_n (i := 0) (a := 0) (by decide +kernel) rfl (?_ : AW _ _ _ _ 1 _ _ _ _ _ _)
  refine AW.getR (idx := 11) (ci := 3) (k := 0) (r := 0) (by decide +kernel) rfl rfl rfl (?_ : AW _ _ _ _ 4 _ _ _ _ _ _)
  refine AW.iload_n (i := 1) (a := 2) (by decide +kernel) rfl (?_ : AW _ _ _ _ 5 _ _ _ _ _ _)
  refine AW.aald (r := 1) (i := 2) (x := 14) (by decide +kernel) rfl rfl (by decide) (?_ : AW _ _ _ _ 6 _ _ _ _ _ _)
  refine AW.astore_n' (i := 2) (L' := [(2, zR (some 14)), (0, zR (some 0)), (1, zI 2)]) (by decide +kernel) (by decide) rfl (?_ : AW _ _ _ _ 7 _ _ _ _ _ _)
  refine AW.iload_n (i := 1) (a := 2) (by decide +kernel) rfl (?_ : AW _ _ _ _ 8 _ _ _ _ _ _)
  refine AW.aload_n (i := 0) (a := 0) (by decide +kernel) rfl (?_ : AW _ _ _ _ 9 _ _ _ _ _ _)
  refine AW.getI (idx := 39) (ci := 3) (k := 3) (r := 0) (by decide +kernel) rfl rfl rfl (?_ : AW _ _ _ _ 12 _ _ _ _ _ _)
  refine AW.icmp_ge (off := 9) (tgt := 21) (by decide +kernel) (by decide) (fun _ => ?_) (fun _ => ?_)
  · refine AW.sub (L' := [(0, zR (some 0)), (2, zR (some 14))]) [1, 0] rfl ?_
    exact j_Orders_tryFrom_2_21 μ
  · refine AW.iload_n (i := 1) (a := 2) (by decide +kernel) rfl (?_ : AW _ _ _ _ 16 _ _ _ _ _ _)
    refine AW.bipush (n := 6) (by decide +kernel) (by decide +kernel) (?_ : AW _ _ _ _ 18 _ _ _ _ _ _)
    refine AW.pos (cnd := w32 2 < w32 6) (o2 := none) (by decide +kernel) (AW.icmp_lt (off := 43) (tgt := 61) (by decide +kernel) (by decide) (fun _ => ?_) (fun _ => AW.noth))
    refine AW.aload_n (i := 0) (a := 0) (by decide +kernel) rfl (?_ : AW _ _ _ _ 62 _ _ _ _ _ _)
    refine AW.getR (idx := 11) (ci := 3) (k := 0) (r := 0) (by decide +kernel) rfl rfl rfl (?_ : AW _ _ _ _ 65 _ _ _ _ _ _)
    refine AW.iload_n (i := 1) (a := 2) (by decide +kernel) rfl (?_ : AW _ _ _ _ 66 _ _ _ _ _ _)
    refine AW.iconst (n := 1) (by decide +kernel) (?_ : AW _ _ _ _ 67 _ _ _ _ _ _)
    refine AW.iadd (by decide +kernel) (?_ : AW _ _ _ _ 68 _ (zI 3 :: _) _ _ _ _)
    refine AW.aald (r := 1) (i := 3) (x := 20) (by decide +kernel) rfl rfl (by decide) (?_ : AW _ _ _ _ 69 _ _ _ _ _ _)
    refine AW.astore_n' (i := 3) (L' := [(3, zR (some 20)), (2, zR (some 14)), (0, zR (some 0)), (1, zI 2)]) (by decide +kernel) (by decide) rfl (?_ : AW _ _ _ _ 70 _ _ _ _ _ _)
    refine AW.iconst (n := 0) (by decide +kernel) (?_ : AW _ _ _ _ 71 _ _ _ _ _ _)
    refine AW.istore' (i := 4) (L' := [(4, zI 0), (3, zR (some 20)), (2, zR (some 14)), (0, zR (some 0)), (1, zI 2)]) (by decide +kernel) (by decide) rfl (?_ : AW _ _ _ _ 73 _ _ _ _ _ _)
    refine AW.sub (L' := [(0, zR (some 0)), (1, zI 2), (2, zR (some 14)), (3, zR (some 20)), (4, zI 0)]) [3, 4, 2, 1, 0] rfl ?_
    refine l_Orders_tryFrom_2_73 (fun μ16 => ?_) zN _ _
    exact AW.retv (by decide +kernel) rfl (by decide) (by decide)
theorem c_Orders_tryFrom_2 (l : Launch) (hl : l.stackTraces = false) (μ : ZMem) (r : ZRes) (h : F_Orders_tryFrom_2 μ = some r) : ZC l cf_Orders_tryFrom_2 S_Orders2 S_Orders2 [zR (some 0), zI 2] μ r := ZC.of hl (by decide +kernel) rfl rfl zft_X3_ok (Nat.le_of_ble_eq_true rfl) h (w_Orders_tryFrom_2 μ)
/-! WeirLedger$Orders.tryFrom(I)V -/
def cf_Orders_tryFrom_1 : ZCf := (yX3_tryFrom, cX3_tryFrom, 5, none, [], 9, 0, 0, zft_X3, none)
theorem cal_Orders_tryFrom_1 : zCallee cf_Orders_tryFrom_1 1 := ⟨rfl, zc_yX3_tryFrom, by decide, by decide, by decide +kernel⟩
def J_Orders_tryFrom_1_21 (μ : ZMem) : Option ZRes := zRd μ 12 4 0 (fun x1 => if w64 x1 ≤ w64 (μ 0 4) then (some (.inr none, μ)) else (zRd μ 12 4 0 (fun x2 => zLet (zUp μ 0 4 x2) (fun μ3 => zLet (zCopy μ3 44 45 6) (fun μ4 => some (.inr none, μ4))))))
set_option maxRecDepth 100000 in
theorem j_Orders_tryFrom_1_21 (μ : ZMem) : AW cf_Orders_tryFrom_1 S_Orders2.length S_Orders2 S_Orders2 21 [(0, zR (some 0)), (2, zR (some 8))] [] μ 0 0 (J_Orders_tryFrom_1_21 μ) := by
  unfold J_Orders_tryFrom_1_21
  refine AW.aload_n (i := 2) (a := 8) (by decide +kernel) rfl (?_ : AW _ _ _ _ 22 _ _ _ _ _ _)
  refine AW.getR (idx := 53) (ci := 0) (k := 3) (r := 8) (by decide +kernel) rfl rfl rfl (?_ : AW _ _ _ _ 25 _ _ _ _ _ _)
  refine AW.iconst (n := 0) (by decide +kernel) (?_ : AW _ _ _ _ 26 _ _ _ _ _ _)
  refine AW.lald (r := 12) (by decide +kernel) rfl (fun x1 => (?_ : AW _ _ _ _ 27 _ _ _ _ _ _))
  refine AW.aload_n (i := 0) (a := 0) (by decide +kernel) rfl (?_ : AW _ _ _ _ 28 _ _ _ _ _ _)
  refine AW.getJ (idx := 45) (ci := 3) (k := 4) (r := 0) (by decide +kernel) rfl rfl rfl (?_ : AW _ _ _ _ 31 _ _ _ _ _ _)
  refine AW.lcmp_le (off := 28) (tgt := 60) (by decide +kernel) (by decide +kernel) (by decide) (fun _ => ?_) (fun _ => ?_)
  · exact AW.retv (by decide +kernel) rfl (by decide) (by decide)
  · refine AW.aload_n (i := 0) (a := 0) (by decide +kernel) rfl (?_ : AW _ _ _ _ 36 _ _ _ _ _ _)
    refine AW.aload_n (i := 2) (a := 8) (by decide +kernel) rfl (?_ : AW _ _ _ _ 37 _ _ _ _ _ _)
    refine AW.getR (idx := 53) (ci := 0) (k := 3) (r := 8) (by decide +kernel) rfl rfl rfl (?_ : AW _ _ _ _ 40 _ _ _ _ _ _)
    refine AW.iconst (n := 0) (by decide +kernel) (?_ : AW _ _ _ _ 41 _ _ _ _ _ _)
    refine AW.lald (r := 12) (by decide +kernel) rfl (fun x2 => (?_ : AW _ _ _ _ 42 _ _ _ _ _ _))
    refine AW.putlL (idx := 45) (ci := 3) (k := 4) (r := 0) (by decide +kernel) rfl rfl rfl (fun μ3 => (?_ : AW _ _ _ _ 45 _ _ _ _ _ _))
    refine AW.aload_n (i := 0) (a := 0) (by decide +kernel) rfl (?_ : AW _ _ _ _ 46 _ _ _ _ _ _)
    refine AW.getR (idx := 17) (ci := 3) (k := 1) (r := 0) (by decide +kernel) rfl rfl rfl (?_ : AW _ _ _ _ 49 _ _ _ _ _ _)
    refine AW.iconst (n := 0) (by decide +kernel) (?_ : AW _ _ _ _ 50 _ _ _ _ _ _)
    refine AW.aload_n (i := 0) (a := 0) (by decide +kernel) rfl (?_ : AW _ _ _ _ 51 _ _ _ _ _ _)
    refine AW.getR (idx := 21) (ci := 3) (k := 2) (r := 0) (by decide +kernel) rfl rfl rfl (?_ : AW _ _ _ _ 54 _ _ _ _ _ _)
    refine AW.iconst (n := 0) (by decide +kernel) (?_ : AW _ _ _ _ 55 _ _ _ _ _ _)
    refine AW.bipush (n := 6) (by decide +kernel) (by decide +kernel) (?_ : AW _ _ _ _ 57 _ _ _ _ _ _)
    refine AW.copyI (idx := 57) (r0 := 44) (r1 := 45) (n := 6) (by decide +kernel) zm_X3_57 rfl rfl (by decide) (by decide) rfl (fun μ4 => (?_ : AW _ _ _ _ 60 _ _ _ _ _ _))
    exact AW.retv (by decide +kernel) rfl (by decide) (by decide)
def J_Orders_tryFrom_1_129 (R : Int → ZMem → Option ZRes) (K : ZMem → Option ZRes) (u4 : Int) (μ : ZMem) : Option ZRes := zLet (u4 + 1) (fun x7 => R x7 μ)
set_option maxRecDepth 100000 in
theorem j_Orders_tryFrom_1_129 {R : Int → ZMem → Option ZRes} {K : ZMem → Option ZRes} (hR : ∀ (v4 : Int) (μ : ZMem), AW cf_Orders_tryFrom_1 S_Orders2.length S_Orders2 S_Orders2 73 [(0, zR (some 0)), (1, zI 1), (2, zR (some 8)), (3, zR (some 14)), (4, zI v4)] [] μ 0 0 (R v4 μ)) (hK : ∀ (μ : ZMem), AW cf_Orders_tryFrom_1 S_Orders2.length S_Orders2 S_Orders2 135 [] [] μ 0 0 (K μ)) (u4 : Int) (μ : ZMem) : AW cf_Orders_tryFrom_1 S_Orders2.length S_Orders2 S_Orders2 129 [(0, zR (some 0)), (1, zI 1), (2, zR (some 8)), (3, zR (some 14)), (4, zI u4)] [] μ 0 0 (J_Orders_tryFrom_1_129 R K u4 μ) := by
  unfold J_Orders_tryFrom_1_129
  refine AW.iincL (i := 4) (n := 1) (a := u4) (L' := fun x7 => [(4, zI x7), (0, zR (some 0)), (1, zI 1), (2, zR (some 8)), (3, zR (some 14))]) (by decide +kernel) rfl (by decide) (fun _ => rfl) (fun x7 => (?_ : AW _ _ _ _ 132 _ _ _ _ _ _))
  refine AW.goto (off := -59) (tgt := 73) (by decide +kernel) (by decide) ?_
  refine AW.sub (L' := [(0, zR (some 0)), (1, zI 1), (2, zR (some 8)), (3, zR (some 14)), (4, zI x7)]) [1, 2, 3, 4, 0] rfl ?_
  exact hR x7 μ
def L_Orders_tryFrom_1_73 (K : ZMem → Option ZRes) : Nat → Int → ZMem → Option ZRes
  | 0, _, _ => none
  | n + 1, v4, μ => if w32 (μ 8 5) ≤ w32 v4 then (K  μ) else (zCm [8, 9, 10, 11, 12, 13] μ (F_Books_isOpen v4 (zVw [8, 9, 10, 11, 12, 13] μ)) (zkI (fun x6 μ5 => if w32 x6 = 0 then (J_Orders_tryFrom_1_129 (fun v4 μ => L_Orders_tryFrom_1_73 K n v4 μ) K v4 μ5) else (zCm [14, 15, 16, 17, 18, 19, 8, 9, 10, 11, 12, 13] μ5 (F_Books_copyFrom  (zVw [14, 15, 16, 17, 18, 19, 8, 9, 10, 11, 12, 13] μ5)) (zkV (fun μ8 => zRd μ8 11 24 ((v4 * 4) + 2) (fun x10 => zCm [14, 15, 16, 17, 18, 19] μ8 (F_Books_sellDeal v4 x10 1 (zVw [14, 15, 16, 17, 18, 19] μ8)) (zkV (fun μ11 => zWr μ11 44 6 1 v4 (fun μ13 => zC (F_Orders_tryFrom_2  μ13) (zkV (fun μ14 => J_Orders_tryFrom_1_129 (fun v4 μ => L_Orders_tryFrom_1_73 K n v4 μ) K v4 μ14)) zX0))) zX0))) zX0))) zX0)
set_option maxRecDepth 100000 in
theorem l_Orders_tryFrom_1_73 {K : ZMem → Option ZRes} (hK : ∀ (μ : ZMem), AW cf_Orders_tryFrom_1 S_Orders2.length S_Orders2 S_Orders2 135 [] [] μ 0 0 (K μ)) : ∀ (n : Nat) (v4 : Int) (μ : ZMem), AW cf_Orders_tryFrom_1 S_Orders2.length S_Orders2 S_Orders2 73 [(0, zR (some 0)), (1, zI 1), (2, zR (some 8)), (3, zR (some 14)), (4, zI v4)] [] μ 0 0 (L_Orders_tryFrom_1_73 K n v4 μ) := by
  intro n
  induction n with
  | zero => intro v4 μ; exact AW.noth
  | succ n ih =>
    intro v4 μ
    rw [L_Orders_tryFrom_1_73]
    refine AW.iload (i := 4) (a := v4) (by decide +kernel) rfl (?_ : AW _ _ _ _ 75 _ _ _ _ _ _)
    refine AW.aload_n (i := 2) (a := 8) (by decide +kernel) rfl (?_ : AW _ _ _ _ 76 _ _ _ _ _ _)
    refine AW.getI (idx := 63) (ci := 0) (k := 5) (r := 8) (by decide +kernel) rfl rfl rfl (?_ : AW _ _ _ _ 79 _ _ _ _ _ _)
    refine AW.icmp_ge (off := 56) (tgt := 135) (by decide +kernel) (by decide) (fun _ => ?_) (fun _ => ?_)
    · refine AW.sub (L' := []) [] rfl ?_
      exact hK  μ
    · refine AW.aload_n (i := 2) (a := 8) (by decide +kernel) rfl (?_ : AW _ _ _ _ 83 _ _ _ _ _ _)
      refine AW.iload (i := 4) (a := v4) (by decide +kernel) rfl (?_ : AW _ _ _ _ 85 _ _ _ _ _ _)
      refine AW.callVm (g := cf_Books_isOpen) (Sg := S_Books3) (pl := [8, 9, 10, 11, 12, 13]) (av := [zI v4]) (b0 := 0) (ci := 0) (idx := 66) (n := 1) (st := []) (by decide +kernel) (fun l hl r hr => c_Books_isOpen l hl v4 _ r hr) sb_32 rfl cal_Books_isOpen rfl (zw4 zm_X3_66 zi_yX0_isOpen zs_yX0_isOpen zn_X0) rfl rfl ⟨by decide, by decide, by decide, by decide⟩ (Nat.le_of_ble_eq_true rfl) (Or.inl rfl) (fun v μ5 => AW.rI (fun x6 => (?_ : AW _ _ _ _ 88 _ _ _ _ _ _)) v)
      refine AW.if_eq (off := 41) (tgt := 129) (by decide +kernel) (by decide) (fun _ => ?_) (fun _ => ?_)
      · exact j_Orders_tryFrom_1_129 ih hK v4 μ5
      · refine AW.aload_n (i := 3) (a := 14) (by decide +kernel) rfl (?_ : AW _ _ _ _ 92 _ _ _ _ _ _)
        refine AW.aload_n (i := 2) (a := 8) (by decide +kernel) rfl (?_ : AW _ _ _ _ 93 _ _ _ _ _ _)
        refine AW.callVm (g := cf_Books_copyFrom) (Sg := S_Books2) (pl := [14, 15, 16, 17, 18, 19, 8, 9, 10, 11, 12, 13]) (av := [zR (some 6)]) (b0 := 0) (ci := 0) (idx := 25) (n := 1) (st := []) (by decide +kernel) (fun l hl r hr => c_Books_copyFrom l hl  _ r hr) sb_33 rfl cal_Books_copyFrom rfl (zw4 zm_X3_25 zi_yX0_copyFrom zs_yX0_copyFrom zn_X0) rfl rfl ⟨by decide, by decide, by decide, by decide⟩ (Nat.le_of_ble_eq_true rfl) (Or.inl rfl) (fun v μ8 => AW.rV (?_ : AW _ _ _ _ 96 _ _ _ _ _ _) v)
        refine AW.aload_n (i := 3) (a := 14) (by decide +kernel) rfl (?_ : AW _ _ _ _ 97 _ _ _ _ _ _)
        refine AW.iload (i := 4) (a := v4) (by decide +kernel) rfl (?_ : AW _ _ _ _ 99 _ _ _ _ _ _)
        refine AW.aload_n (i := 2) (a := 8) (by decide +kernel) rfl (?_ : AW _ _ _ _ 100 _ _ _ _ _ _)
        refine AW.getR (idx := 70) (ci := 0) (k := 2) (r := 8) (by decide +kernel) rfl rfl rfl (?_ : AW _ _ _ _ 103 _ _ _ _ _ _)
        refine AW.iload (i := 4) (a := v4) (by decide +kernel) rfl (?_ : AW _ _ _ _ 105 _ _ _ _ _ _)
        refine AW.iconst (n := 4) (by decide +kernel) (?_ : AW _ _ _ _ 106 _ _ _ _ _ _)
        refine AW.imul (by decide +kernel) (?_ : AW _ _ _ _ 107 _ _ _ _ _ _)
        refine AW.iconst (n := 2) (by decide +kernel) (?_ : AW _ _ _ _ 108 _ _ _ _ _ _)
        refine AW.iadd (by decide +kernel) (?_ : AW _ _ _ _ 109 _ _ _ _ _ _)
        refine AW.iald (r := 11) (by decide +kernel) rfl (fun x10 => (?_ : AW _ _ _ _ 110 _ _ _ _ _ _))
        refine AW.iconst (n := 1) (by decide +kernel) (?_ : AW _ _ _ _ 111 _ _ _ _ _ _)
        refine AW.callVm (g := cf_Books_sellDeal) (Sg := S_Books3) (pl := [14, 15, 16, 17, 18, 19]) (av := [zI v4, zI x10, zI 1]) (b0 := 0) (ci := 0) (idx := 73) (n := 3) (st := []) (by decide +kernel) (fun l hl r hr => c_Books_sellDeal l hl v4 x10 1 _ r hr) sb_34 rfl cal_Books_sellDeal rfl (zw4 zm_X3_73 zi_yX0_sellDeal zs_yX0_sellDeal zn_X0) rfl rfl ⟨by decide, by decide, by decide, by decide⟩ (Nat.le_of_ble_eq_true rfl) (Or.inl rfl) (fun v μ11 => AW.rV (?_ : AW _ _ _ _ 114 _ _ _ _ _ _) v)
        refine AW.aload_n (i := 0) (a := 0) (by decide +kernel) rfl (?_ : AW _ _ _ _ 115 _ _ _ _ _ _)
        refine AW.getR (idx := 17) (ci := 3) (k := 1) (r := 0) (by decide +kernel) rfl rfl rfl (?_ : AW _ _ _ _ 118 _ _ _ _ _ _)
        refine AW.iload_n (i := 1) (a := 1) (by decide +kernel) rfl (?_ : AW _ _ _ _ 119 _ _ _ _ _ _)
        refine AW.iload (i := 4) (a := v4) (by decide +kernel) rfl (?_ : AW _ _ _ _ 121 _ _ _ _ _ _)
        refine AW.iastL (r := 44) (by decide +kernel) rfl (fun μ13 => (?_ : AW _ _ _ _ 122 _ _ _ _ _ _))
        refine AW.aload_n (i := 0) (a := 0) (by decide +kernel) rfl (?_ : AW _ _ _ _ 123 _ _ _ _ _ _)
        refine AW.iload_n (i := 1) (a := 1) (by decide +kernel) rfl (?_ : AW _ _ _ _ 124 _ _ _ _ _ _)
        refine AW.iconst (n := 1) (by decide +kernel) (?_ : AW _ _ _ _ 125 _ _ _ _ _ _)
        refine AW.iadd (by decide +kernel) (?_ : AW _ _ _ _ 126 _ (zI 2 :: _) _ _ _ _)
        refine AW.callVw (g := cf_Orders_tryFrom_2) (av := [zI 2]) (b0 := 0) (ci := 3) (idx := 49) (n := 1) (st := []) (by decide +kernel) (fun l hl r hr => c_Orders_tryFrom_2 l hl  _ r hr) S_Orders2_wf rfl cal_Orders_tryFrom_2 rfl (zw4 zm_X3_49 zi_yX3_tryFrom zs_yX3_tryFrom zn_X3) rfl rfl ⟨by decide, by decide, by decide, by decide⟩ (Nat.le_of_ble_eq_true rfl) (Or.inl rfl) (fun v μ14 => AW.kV (?_ : AW _ _ _ _ 129 _ _ _ _ _ _) v)
        exact j_Orders_tryFrom_1_129 ih hK v4 μ14
def F_Orders_tryFrom_1 (μ : ZMem) : Option ZRes := if w32 (μ 0 3) ≤ w32 1 then (J_Orders_tryFrom_1_21 μ) else (L_Orders_tryFrom_1_73 (fun μ16 => some (.inr none, μ16)) zN 0 μ)
set_option maxRecDepth 100000 in
theorem w_Orders_tryFrom_1 (μ : ZMem) : AW cf_Orders_tryFrom_1 S_Orders2.length S_Orders2 S_Orders2 0 [(0, zR (some 0)), (1, zI 1)] [] μ 0 0 (F_Orders_tryFrom_1 μ) := by
  unfold F_Orders_tryFrom_1
  refine AW.aload_n (i := 0) (a := 0) (by decide +kernel) rfl (?_ : AW _ _ _ _ 1 _ _ _ _ _ _)
  refine AW.getR (idx := 11) (ci := 3) (k := 0) (r := 0) (by decide +kernel) rfl rfl rfl (?_ : AW _ _ _ _ 4 _ _ _ _ _ _)
  refine AW.iload_n (i := 1) (a := 1) (by decide +kernel) rfl (?_ : AW _ _ _ _ 5 _ _ _ _ _ _)
  refine AW.aald (r := 1) (i := 1) (x := 8) (by decide +kernel) rfl rfl (by decide) (?_ : AW _ _ _ _ 6 _ _ _ _ _ _)
  refine AW.astore_n' (i := 2) (L' := [(2, zR (some 8)), (0, zR (some 0)), (1, zI 1)]) (by decide +kernel) (by decide) rfl (?_ : AW _ _ _ _ 7 _ _ _ _ _ _)
  refine AW.iload_n (i := 1) (a := 1) (by decide +kernel) rfl (?_ : AW _ _ _ _ 8 _ _ _ _ _ _)
  refine AW.aload_n (i := 0) (a := 0) (by decide +kernel) rfl (?_ : AW _ _ _ _ 9 _ _ _ _ _ _)
  refine AW.getI (idx := 39) (ci := 3) (k := 3) (r := 0) (by decide +kernel) rfl rfl rfl (?_ : AW _ _ _ _ 12 _ _ _ _ _ _)
  refine AW.icmp_ge (off := 9) (tgt := 21) (by decide +kernel) (by decide) (fun _ => ?_) (fun _ => ?_)
  · refine AW.sub (L' := [(0, zR (some 0)), (2, zR (some 8))]) [1, 0] rfl ?_
    exact j_Orders_tryFrom_1_21 μ
  · refine AW.iload_n (i := 1) (a := 1) (by decide +kernel) rfl (?_ : AW _ _ _ _ 16 _ _ _ _ _ _)
    refine AW.bipush (n := 6) (by decide +kernel) (by decide +kernel) (?_ : AW _ _ _ _ 18 _ _ _ _ _ _)
    refine AW.pos (cnd := w32 1 < w32 6) (o2 := none) (by decide +kernel) (AW.icmp_lt (off := 43) (tgt := 61) (by decide +kernel) (by decide) (fun _ => ?_) (fun _ => AW.noth))
    refine AW.aload_n (i := 0) (a := 0) (by decide +kernel) rfl (?_ : AW _ _ _ _ 62 _ _ _ _ _ _)
    refine AW.getR (idx := 11) (ci := 3) (k := 0) (r := 0) (by decide +kernel) rfl rfl rfl (?_ : AW _ _ _ _ 65 _ _ _ _ _ _)
    refine AW.iload_n (i := 1) (a := 1) (by decide +kernel) rfl (?_ : AW _ _ _ _ 66 _ _ _ _ _ _)
    refine AW.iconst (n := 1) (by decide +kernel) (?_ : AW _ _ _ _ 67 _ _ _ _ _ _)
    refine AW.iadd (by decide +kernel) (?_ : AW _ _ _ _ 68 _ (zI 2 :: _) _ _ _ _)
    refine AW.aald (r := 1) (i := 2) (x := 14) (by decide +kernel) rfl rfl (by decide) (?_ : AW _ _ _ _ 69 _ _ _ _ _ _)
    refine AW.astore_n' (i := 3) (L' := [(3, zR (some 14)), (2, zR (some 8)), (0, zR (some 0)), (1, zI 1)]) (by decide +kernel) (by decide) rfl (?_ : AW _ _ _ _ 70 _ _ _ _ _ _)
    refine AW.iconst (n := 0) (by decide +kernel) (?_ : AW _ _ _ _ 71 _ _ _ _ _ _)
    refine AW.istore' (i := 4) (L' := [(4, zI 0), (3, zR (some 14)), (2, zR (some 8)), (0, zR (some 0)), (1, zI 1)]) (by decide +kernel) (by decide) rfl (?_ : AW _ _ _ _ 73 _ _ _ _ _ _)
    refine AW.sub (L' := [(0, zR (some 0)), (1, zI 1), (2, zR (some 8)), (3, zR (some 14)), (4, zI 0)]) [3, 4, 2, 1, 0] rfl ?_
    refine l_Orders_tryFrom_1_73 (fun μ16 => ?_) zN _ _
    exact AW.retv (by decide +kernel) rfl (by decide) (by decide)
theorem c_Orders_tryFrom_1 (l : Launch) (hl : l.stackTraces = false) (μ : ZMem) (r : ZRes) (h : F_Orders_tryFrom_1 μ = some r) : ZC l cf_Orders_tryFrom_1 S_Orders2 S_Orders2 [zR (some 0), zI 1] μ r := ZC.of hl (by decide +kernel) rfl rfl zft_X3_ok (Nat.le_of_ble_eq_true rfl) h (w_Orders_tryFrom_1 μ)
/-! WeirLedger$Orders.tryFrom(I)V -/
def cf_Orders_tryFrom_0 : ZCf := (yX3_tryFrom, cX3_tryFrom, 5, none, [], 10, 0, 0, zft_X3, none)
theorem cal_Orders_tryFrom_0 : zCallee cf_Orders_tryFrom_0 1 := ⟨rfl, zc_yX3_tryFrom, by decide, by decide, by decide +kernel⟩
def J_Orders_tryFrom_0_21 (μ : ZMem) : Option ZRes := zRd μ 6 4 0 (fun x1 => if w64 x1 ≤ w64 (μ 0 4) then (some (.inr none, μ)) else (zRd μ 6 4 0 (fun x2 => zLet (zUp μ 0 4 x2) (fun μ3 => zLet (zCopy μ3 44 45 6) (fun μ4 => some (.inr none, μ4))))))
set_option maxRecDepth 100000 in
theorem j_Orders_tryFrom_0_21 (μ : ZMem) : AW cf_Orders_tryFrom_0 S_Orders2.length S_Orders2 S_Orders2 21 [(0, zR (some 0)), (2, zR (some 2))] [] μ 0 0 (J_Orders_tryFrom_0_21 μ) := by
  unfold J_Orders_tryFrom_0_21
  refine AW.aload_n (i := 2) (a := 2) (by decide +kernel) rfl (?_ : AW _ _ _ _ 22 _ _ _ _ _ _)
  refine AW.getR (idx := 53) (ci := 0) (k := 3) (r := 2) (by decide +kernel) rfl rfl rfl (?_ : AW _ _ _ _ 25 _ _ _ _ _ _)
  refine AW.iconst (n := 0) (by decide +kernel) (?_ : AW _ _ _ _ 26 _ _ _ _ _ _)
  refine AW.lald (r := 6) (by decide +kernel) rfl (fun x1 => (?_ : AW _ _ _ _ 27 _ _ _ _ _ _))
  refine AW.aload_n (i := 0) (a := 0) (by decide +kernel) rfl (?_ : AW _ _ _ _ 28 _ _ _ _ _ _)
  refine AW.getJ (idx := 45) (ci := 3) (k := 4) (r := 0) (by decide +kernel) rfl rfl rfl (?_ : AW _ _ _ _ 31 _ _ _ _ _ _)
  refine AW.lcmp_le (off := 28) (tgt := 60) (by decide +kernel) (by decide +kernel) (by decide) (fun _ => ?_) (fun _ => ?_)
  · exact AW.retv (by decide +kernel) rfl (by decide) (by decide)
  · refine AW.aload_n (i := 0) (a := 0) (by decide +kernel) rfl (?_ : AW _ _ _ _ 36 _ _ _ _ _ _)
    refine AW.aload_n (i := 2) (a := 2) (by decide +kernel) rfl (?_ : AW _ _ _ _ 37 _ _ _ _ _ _)
    refine AW.getR (idx := 53) (ci := 0) (k := 3) (r := 2) (by decide +kernel) rfl rfl rfl (?_ : AW _ _ _ _ 40 _ _ _ _ _ _)
    refine AW.iconst (n := 0) (by decide +kernel) (?_ : AW _ _ _ _ 41 _ _ _ _ _ _)
    refine AW.lald (r := 6) (by decide +kernel) rfl (fun x2 => (?_ : AW _ _ _ _ 42 _ _ _ _ _ _))
    refine AW.putlL (idx := 45) (ci := 3) (k := 4) (r := 0) (by decide +kernel) rfl rfl rfl (fun μ3 => (?_ : AW _ _ _ _ 45 _ _ _ _ _ _))
    refine AW.aload_n (i := 0) (a := 0) (by decide +kernel) rfl (?_ : AW _ _ _ _ 46 _ _ _ _ _ _)
    refine AW.getR (idx := 17) (ci := 3) (k := 1) (r := 0) (by decide +kernel) rfl rfl rfl (?_ : AW _ _ _ _ 49 _ _ _ _ _ _)
    refine AW.iconst (n := 0) (by decide +kernel) (?_ : AW _ _ _ _ 50 _ _ _ _ _ _)
    refine AW.aload_n (i := 0) (a := 0) (by decide +kernel) rfl (?_ : AW _ _ _ _ 51 _ _ _ _ _ _)
    refine AW.getR (idx := 21) (ci := 3) (k := 2) (r := 0) (by decide +kernel) rfl rfl rfl (?_ : AW _ _ _ _ 54 _ _ _ _ _ _)
    refine AW.iconst (n := 0) (by decide +kernel) (?_ : AW _ _ _ _ 55 _ _ _ _ _ _)
    refine AW.bipush (n := 6) (by decide +kernel) (by decide +kernel) (?_ : AW _ _ _ _ 57 _ _ _ _ _ _)
    refine AW.copyI (idx := 57) (r0 := 44) (r1 := 45) (n := 6) (by decide +kernel) zm_X3_57 rfl rfl (by decide) (by decide) rfl (fun μ4 => (?_ : AW _ _ _ _ 60 _ _ _ _ _ _))
    exact AW.retv (by decide +kernel) rfl (by decide) (by decide)
def J_Orders_tryFrom_0_129 (R : Int → ZMem → Option ZRes) (K : ZMem → Option ZRes) (u4 : Int) (μ : ZMem) : Option ZRes := zLet (u4 + 1) (fun x7 => R x7 μ)
set_option maxRecDepth 100000 in
theorem j_Orders_tryFrom_0_129 {R : Int → ZMem → Option ZRes} {K : ZMem → Option ZRes} (hR : ∀ (v4 : Int) (μ : ZMem), AW cf_Orders_tryFrom_0 S_Orders2.length S_Orders2 S_Orders2 73 [(0, zR (some 0)), (1, zI 0), (2, zR (some 2)), (3, zR (some 8)), (4, zI v4)] [] μ 0 0 (R v4 μ)) (hK : ∀ (μ : ZMem), AW cf_Orders_tryFrom_0 S_Orders2.length S_Orders2 S_Orders2 135 [] [] μ 0 0 (K μ)) (u4 : Int) (μ : ZMem) : AW cf_Orders_tryFrom_0 S_Orders2.length S_Orders2 S_Orders2 129 [(0, zR (some 0)), (1, zI 0), (2, zR (some 2)), (3, zR (some 8)), (4, zI u4)] [] μ 0 0 (J_Orders_tryFrom_0_129 R K u4 μ) := by
  unfold J_Orders_tryFrom_0_129
  refine AW.iincL (i := 4) (n := 1) (a := u4) (L' := fun x7 => [(4, zI x7), (0, zR (some 0)), (1, zI 0), (2, zR (some 2)), (3, zR (some 8))]) (by decide +kernel) rfl (by decide) (fun _ => rfl) (fun x7 => (?_ : AW _ _ _ _ 132 _ _ _ _ _ _))
  refine AW.goto (off := -59) (tgt := 73) (by decide +kernel) (by decide) ?_
  refine AW.sub (L' := [(0, zR (some 0)), (1, zI 0), (2, zR (some 2)), (3, zR (some 8)), (4, zI x7)]) [1, 2, 3, 4, 0] rfl ?_
  exact hR x7 μ
def L_Orders_tryFrom_0_73 (K : ZMem → Option ZRes) : Nat → Int → ZMem → Option ZRes
  | 0, _, _ => none
  | n + 1, v4, μ => if w32 (μ 2 5) ≤ w32 v4 then (K  μ) else (zCm [2, 3, 4, 5, 6, 7] μ (F_Books_isOpen v4 (zVw [2, 3, 4, 5, 6, 7] μ)) (zkI (fun x6 μ5 => if w32 x6 = 0 then (J_Orders_tryFrom_0_129 (fun v4 μ => L_Orders_tryFrom_0_73 K n v4 μ) K v4 μ5) else (zCm [8, 9, 10, 11, 12, 13, 2, 3, 4, 5, 6, 7] μ5 (F_Books_copyFrom  (zVw [8, 9, 10, 11, 12, 13, 2, 3, 4, 5, 6, 7] μ5)) (zkV (fun μ8 => zRd μ8 5 24 ((v4 * 4) + 2) (fun x10 => zCm [8, 9, 10, 11, 12, 13] μ8 (F_Books_sellDeal v4 x10 1 (zVw [8, 9, 10, 11, 12, 13] μ8)) (zkV (fun μ11 => zWr μ11 44 6 0 v4 (fun μ13 => zC (F_Orders_tryFrom_1  μ13) (zkV (fun μ14 => J_Orders_tryFrom_0_129 (fun v4 μ => L_Orders_tryFrom_0_73 K n v4 μ) K v4 μ14)) zX0))) zX0))) zX0))) zX0)
set_option maxRecDepth 100000 in
theorem l_Orders_tryFrom_0_73 {K : ZMem → Option ZRes} (hK : ∀ (μ : ZMem), AW cf_Orders_tryFrom_0 S_Orders2.length S_Orders2 S_Orders2 135 [] [] μ 0 0 (K μ)) : ∀ (n : Nat) (v4 : Int) (μ : ZMem), AW cf_Orders_tryFrom_0 S_Orders2.length S_Orders2 S_Orders2 73 [(0, zR (some 0)), (1, zI 0), (2, zR (some 2)), (3, zR (some 8)), (4, zI v4)] [] μ 0 0 (L_Orders_tryFrom_0_73 K n v4 μ) := by
  intro n
  induction n with
  | zero => intro v4 μ; exact AW.noth
  | succ n ih =>
    intro v4 μ
    rw [L_Orders_tryFrom_0_73]
    refine AW.iload (i := 4) (a := v4) (by decide +kernel) rfl (?_ : AW _ _ _ _ 75 _ _ _ _ _ _)
    refine AW.aload_n (i := 2) (a := 2) (by decide +kernel) rfl (?_ : AW _ _ _ _ 76 _ _ _ _ _ _)
    refine AW.getI (idx := 63) (ci := 0) (k := 5) (r := 2) (by decide +kernel) rfl rfl rfl (?_ : AW _ _ _ _ 79 _ _ _ _ _ _)
    refine AW.icmp_ge (off := 56) (tgt := 135) (by decide +kernel) (by decide) (fun _ => ?_) (fun _ => ?_)
    · refine AW.sub (L' := []) [] rfl ?_
      exact hK  μ
    · refine AW.aload_n (i := 2) (a := 2) (by decide +kernel) rfl (?_ : AW _ _ _ _ 83 _ _ _ _ _ _)
      refine AW.iload (i := 4) (a := v4) (by decide +kernel) rfl (?_ : AW _ _ _ _ 85 _ _ _ _ _ _)
      refine AW.callVm (g := cf_Books_isOpen) (Sg := S_Books3) (pl := [2, 3, 4, 5, 6, 7]) (av := [zI v4]) (b0 := 0) (ci := 0) (idx := 66) (n := 1) (st := []) (by decide +kernel) (fun l hl r hr => c_Books_isOpen l hl v4 _ r hr) sb_30 rfl cal_Books_isOpen rfl (zw4 zm_X3_66 zi_yX0_isOpen zs_yX0_isOpen zn_X0) rfl rfl ⟨by decide, by decide, by decide, by decide⟩ (Nat.le_of_ble_eq_true rfl) (Or.inl rfl) (fun v μ5 => AW.rI (fun x6 => (?_ : AW _ _ _ _ 88 _ _ _ _ _ _)) v)
      refine AW.if_eq (off := 41) (tgt := 129) (by decide +kernel) (by decide) (fun _ => ?_) (fun _ => ?_)
      · exact j_Orders_tryFrom_0_129 ih hK v4 μ5
      · refine AW.aload_n (i := 3) (a := 8) (by decide +kernel) rfl (?_ : AW _ _ _ _ 92 _ _ _ _ _ _)
        refine AW.aload_n (i := 2) (a := 2) (by decide +kernel) rfl (?_ : AW _ _ _ _ 93 _ _ _ _ _ _)
        refine AW.callVm (g := cf_Books_copyFrom) (Sg := S_Books2) (pl := [8, 9, 10, 11, 12, 13, 2, 3, 4, 5, 6, 7]) (av := [zR (some 6)]) (b0 := 0) (ci := 0) (idx := 25) (n := 1) (st := []) (by decide +kernel) (fun l hl r hr => c_Books_copyFrom l hl  _ r hr) sb_31 rfl cal_Books_copyFrom rfl (zw4 zm_X3_25 zi_yX0_copyFrom zs_yX0_copyFrom zn_X0) rfl rfl ⟨by decide, by decide, by decide, by decide⟩ (Nat.le_of_ble_eq_true rfl) (Or.inl rfl) (fun v μ8 => AW.rV (?_ : AW _ _ _ _ 96 _ _ _ _ _ _) v)
        refine AW.aload_n (i := 3) (a := 8) (by decide +kernel) rfl (?_ : AW _ _ _ _ 97 _ _ _ _ _ _)
        refine AW.iload (i := 4) (a := v4) (by decide +kernel) rfl (?_ : AW _ _ _ _ 99 _ _ _ _ _ _)
        refine AW.aload_n (i := 2) (a := 2) (by decide +kernel) rfl (?_ : AW _ _ _ _ 100 _ _ _ _ _ _)
        refine AW.getR (idx := 70) (ci := 0) (k := 2) (r := 2) (by decide +kernel) rfl rfl rfl (?_ : AW _ _ _ _ 103 _ _ _ _ _ _)
        refine AW.iload (i := 4) (a := v4) (by decide +kernel) rfl (?_ : AW _ _ _ _ 105 _ _ _ _ _ _)
        refine AW.iconst (n := 4) (by decide +kernel) (?_ : AW _ _ _ _ 106 _ _ _ _ _ _)
        refine AW.imul (by decide +kernel) (?_ : AW _ _ _ _ 107 _ _ _ _ _ _)
        refine AW.iconst (n := 2) (by decide +kernel) (?_ : AW _ _ _ _ 108 _ _ _ _ _ _)
        refine AW.iadd (by decide +kernel) (?_ : AW _ _ _ _ 109 _ _ _ _ _ _)
        refine AW.iald (r := 5) (by decide +kernel) rfl (fun x10 => (?_ : AW _ _ _ _ 110 _ _ _ _ _ _))
        refine AW.iconst (n := 1) (by decide +kernel) (?_ : AW _ _ _ _ 111 _ _ _ _ _ _)
        refine AW.callVm (g := cf_Books_sellDeal) (Sg := S_Books3) (pl := [8, 9, 10, 11, 12, 13]) (av := [zI v4, zI x10, zI 1]) (b0 := 0) (ci := 0) (idx := 73) (n := 3) (st := []) (by decide +kernel) (fun l hl r hr => c_Books_sellDeal l hl v4 x10 1 _ r hr) sb_32 rfl cal_Books_sellDeal rfl (zw4 zm_X3_73 zi_yX0_sellDeal zs_yX0_sellDeal zn_X0) rfl rfl ⟨by decide, by decide, by decide, by decide⟩ (Nat.le_of_ble_eq_true rfl) (Or.inl rfl) (fun v μ11 => AW.rV (?_ : AW _ _ _ _ 114 _ _ _ _ _ _) v)
        refine AW.aload_n (i := 0) (a := 0) (by decide +kernel) rfl (?_ : AW _ _ _ _ 115 _ _ _ _ _ _)
        refine AW.getR (idx := 17) (ci := 3) (k := 1) (r := 0) (by decide +kernel) rfl rfl rfl (?_ : AW _ _ _ _ 118 _ _ _ _ _ _)
        refine AW.iload_n (i := 1) (a := 0) (by decide +kernel) rfl (?_ : AW _ _ _ _ 119 _ _ _ _ _ _)
        refine AW.iload (i := 4) (a := v4) (by decide +kernel) rfl (?_ : AW _ _ _ _ 121 _ _ _ _ _ _)
        refine AW.iastL (r := 44) (by decide +kernel) rfl (fun μ13 => (?_ : AW _ _ _ _ 122 _ _ _ _ _ _))
        refine AW.aload_n (i := 0) (a := 0) (by decide +kernel) rfl (?_ : AW _ _ _ _ 123 _ _ _ _ _ _)
        refine AW.iload_n (i := 1) (a := 0) (by decide +kernel) rfl (?_ : AW _ _ _ _ 124 _ _ _ _ _ _)
        refine AW.iconst (n := 1) (by decide +kernel) (?_ : AW _ _ _ _ 125 _ _ _ _ _ _)
        refine AW.iadd (by decide +kernel) (?_ : AW _ _ _ _ 126 _ (zI 1 :: _) _ _ _ _)
        refine AW.callVw (g := cf_Orders_tryFrom_1) (av := [zI 1]) (b0 := 0) (ci := 3) (idx := 49) (n := 1) (st := []) (by decide +kernel) (fun l hl r hr => c_Orders_tryFrom_1 l hl  _ r hr) S_Orders2_wf rfl cal_Orders_tryFrom_1 rfl (zw4 zm_X3_49 zi_yX3_tryFrom zs_yX3_tryFrom zn_X3) rfl rfl ⟨by decide, by decide, by decide, by decide⟩ (Nat.le_of_ble_eq_true rfl) (Or.inl rfl) (fun v μ14 => AW.kV (?_ : AW _ _ _ _ 129 _ _ _ _ _ _) v)
        exact j_Orders_tryFrom_0_129 ih hK v4 μ14
def F_Orders_tryFrom_0 (μ : ZMem) : Option ZRes := if w32 (μ 0 3) ≤ w32 0 then (J_Orders_tryFrom_0_21 μ) else (L_Orders_tryFrom_0_73 (fun μ16 => some (.inr none, μ16)) zN 0 μ)
set_option maxRecDepth 100000 in
theorem w_Orders_tryFrom_0 (μ : ZMem) : AW cf_Orders_tryFrom_0 S_Orders2.length S_Orders2 S_Orders2 0 [(0, zR (some 0)), (1, zI 0)] [] μ 0 0 (F_Orders_tryFrom_0 μ) := by
  unfold F_Orders_tryFrom_0
  refine AW.aload_n (i := 0) (a := 0) (by decide +kernel) rfl (?_ : AW _ _ _ _ 1 _ _ _ _ _ _)
  refine AW.getR (idx := 11) (ci := 3) (k := 0) (r := 0) (by decide +kernel) rfl rfl rfl (?_ : AW _ _ _ _ 4 _ _ _ _ _ _)
  refine AW.iload_n (i := 1) (a := 0) (by decide +kernel) rfl (?_ : AW _ _ _ _ 5 _ _ _ _ _ _)
  refine AW.aald (r := 1) (i := 0) (x := 2) (by decide +kernel) rfl rfl (by decide) (?_ : AW _ _ _ _ 6 _ _ _ _ _ _)
  refine AW.astore_n' (i := 2) (L' := [(2, zR (some 2)), (0, zR (some 0)), (1, zI 0)]) (by decide +kernel) (by decide) rfl (?_ : AW _ _ _ _ 7 _ _ _ _ _ _)
  refine AW.iload_n (i := 1) (a := 0) (by decide +kernel) rfl (?_ : AW _ _ _ _ 8 _ _ _ _ _ _)
  refine AW.aload_n (i := 0) (a := 0) (by decide +kernel) rfl (?_ : AW _ _ _ _ 9 _ _ _ _ _ _)
  refine AW.getI (idx := 39) (ci := 3) (k := 3) (r := 0) (by decide +kernel) rfl rfl rfl (?_ : AW _ _ _ _ 12 _ _ _ _ _ _)
  refine AW.icmp_ge (off := 9) (tgt := 21) (by decide +kernel) (by decide) (fun _ => ?_) (fun _ => ?_)
  · refine AW.sub (L' := [(0, zR (some 0)), (2, zR (some 2))]) [1, 0] rfl ?_
    exact j_Orders_tryFrom_0_21 μ
  · refine AW.iload_n (i := 1) (a := 0) (by decide +kernel) rfl (?_ : AW _ _ _ _ 16 _ _ _ _ _ _)
    refine AW.bipush (n := 6) (by decide +kernel) (by decide +kernel) (?_ : AW _ _ _ _ 18 _ _ _ _ _ _)
    refine AW.pos (cnd := w32 0 < w32 6) (o2 := none) (by decide +kernel) (AW.icmp_lt (off := 43) (tgt := 61) (by decide +kernel) (by decide) (fun _ => ?_) (fun _ => AW.noth))
    refine AW.aload_n (i := 0) (a := 0) (by decide +kernel) rfl (?_ : AW _ _ _ _ 62 _ _ _ _ _ _)
    refine AW.getR (idx := 11) (ci := 3) (k := 0) (r := 0) (by decide +kernel) rfl rfl rfl (?_ : AW _ _ _ _ 65 _ _ _ _ _ _)
    refine AW.iload_n (i := 1) (a := 0) (by decide +kernel) rfl (?_ : AW _ _ _ _ 66 _ _ _ _ _ _)
    refine AW.iconst (n := 1) (by decide +kernel) (?_ : AW _ _ _ _ 67 _ _ _ _ _ _)
    refine AW.iadd (by decide +kernel) (?_ : AW _ _ _ _ 68 _ (zI 1 :: _) _ _ _ _)
    refine AW.aald (r := 1) (i := 1) (x := 8) (by decide +kernel) rfl rfl (by decide) (?_ : AW _ _ _ _ 69 _ _ _ _ _ _)
    refine AW.astore_n' (i := 3) (L' := [(3, zR (some 8)), (2, zR (some 2)), (0, zR (some 0)), (1, zI 0)]) (by decide +kernel) (by decide) rfl (?_ : AW _ _ _ _ 70 _ _ _ _ _ _)
    refine AW.iconst (n := 0) (by decide +kernel) (?_ : AW _ _ _ _ 71 _ _ _ _ _ _)
    refine AW.istore' (i := 4) (L' := [(4, zI 0), (3, zR (some 8)), (2, zR (some 2)), (0, zR (some 0)), (1, zI 0)]) (by decide +kernel) (by decide) rfl (?_ : AW _ _ _ _ 73 _ _ _ _ _ _)
    refine AW.sub (L' := [(0, zR (some 0)), (1, zI 0), (2, zR (some 2)), (3, zR (some 8)), (4, zI 0)]) [3, 4, 2, 1, 0] rfl ?_
    refine l_Orders_tryFrom_0_73 (fun μ16 => ?_) zN _ _
    exact AW.retv (by decide +kernel) rfl (by decide) (by decide)
theorem c_Orders_tryFrom_0 (l : Launch) (hl : l.stackTraces = false) (μ : ZMem) (r : ZRes) (h : F_Orders_tryFrom_0 μ = some r) : ZC l cf_Orders_tryFrom_0 S_Orders2 S_Orders2 [zR (some 0), zI 0] μ r := ZC.of hl (by decide +kernel) rfl rfl zft_X3_ok (Nat.le_of_ble_eq_true rfl) h (w_Orders_tryFrom_0 μ)
theorem sb_43 : zSub S_Orders [0, 1, 2, 3, 4, 5, 6, 7, 8, 9, 10, 11, 12, 13, 14, 15, 16, 17, 18, 19, 20, 21, 22, 23, 24, 25, 26, 27, 28, 29, 30, 31, 32, 33, 34, 35, 36, 37, 38, 39, 40, 41, 42, 43, 44, 45] S_Orders2 := ⟨rfl, by decide +kernel, by decide +kernel, rfl⟩
/-! WeirLedger$Orders.search(LWeirLedger$Books;)V -/
def cf_Orders_search : ZCf := (yX3_search, cX3_search, 2, none, [], 11, 0, 0, zft_X3, none)
theorem cal_Orders_search : zCallee cf_Orders_search 1 := ⟨rfl, zc_yX3_search, by decide, by decide, by decide +kernel⟩
def F_Orders_search (μ : ZMem) : Option ZRes := zCm [2, 3, 4, 5, 6, 7, 46, 47, 48, 49, 50, 51] μ (F_Books_copyFrom  (zVw [2, 3, 4, 5, 6, 7, 46, 47, 48, 49, 50, 51] μ)) (zkV (fun μ1 => zCm [46, 47, 48, 49, 50, 51] μ1 (F_Books_openDeals  (zVw [46, 47, 48, 49, 50, 51] μ1)) (zkI (fun x4 μ3 => zC (F_Integer_bitCount x4 μ3) (zkI (fun x6 _ => zLet (zUp μ3 0 3 x6) (fun μ7 => zLet (zUp μ7 0 4 (-1)) (fun μ8 => zCm [0, 1, 2, 3, 4, 5, 6, 7, 8, 9, 10, 11, 12, 13, 14, 15, 16, 17, 18, 19, 20, 21, 22, 23, 24, 25, 26, 27, 28, 29, 30, 31, 32, 33, 34, 35, 36, 37, 38, 39, 40, 41, 42, 43, 44, 45] μ8 (F_Orders_tryFrom_0  (zVw [0, 1, 2, 3, 4, 5, 6, 7, 8, 9, 10, 11, 12, 13, 14, 15, 16, 17, 18, 19, 20, 21, 22, 23, 24, 25, 26, 27, 28, 29, 30, 31, 32, 33, 34, 35, 36, 37, 38, 39, 40, 41, 42, 43, 44, 45] μ8)) (zkV (fun μ9 => some (.inr none, μ9))) zX0)))) zX0)) zX0)) zX0
set_option maxRecDepth 100000 in
theorem w_Orders_search (μ : ZMem) : AW cf_Orders_search S_Orders.length S_Orders S_Orders 0 [(0, zR (some 0)), (1, zR (some 46))] [] μ 0 0 (F_Orders_search μ) := by
  unfold F_Orders_search
  refine AW.aload_n (i := 0) (a := 0) (by decide +kernel) rfl (?_ : AW _ _ _ _ 1 _ _ _ _ _ _)
  refine AW.getR (idx := 11) (ci := 3) (k := 0) (r := 0) (by decide +kernel) rfl rfl rfl (?_ : AW _ _ _ _ 4 _ _ _ _ _ _)
  refine AW.iconst (n := 0) (by decide +kernel) (?_ : AW _ _ _ _ 5 _ _ _ _ _ _)
  refine AW.aald (r := 1) (i := 0) (x := 2) (by decide +kernel) rfl rfl (by decide) (?_ : AW _ _ _ _ 6 _ _ _ _ _ _)
  refine AW.aload_n (i := 1) (a := 46) (by decide +kernel) rfl (?_ : AW _ _ _ _ 7 _ _ _ _ _ _)
  refine AW.callVm (g := cf_Books_copyFrom) (Sg := S_Books2) (pl := [2, 3, 4, 5, 6, 7, 46, 47, 48, 49, 50, 51]) (av := [zR (some 6)]) (b0 := 0) (ci := 0) (idx := 25) (n := 1) (st := []) (by decide +kernel) (fun l hl r hr => c_Books_copyFrom l hl  _ r hr) sb_28 rfl cal_Books_copyFrom rfl (zw4 zm_X3_25 zi_yX0_copyFrom zs_yX0_copyFrom zn_X0) rfl rfl ⟨by decide, by decide, by decide, by decide⟩ (Nat.le_of_ble_eq_true rfl) (Or.inl rfl) (fun v μ1 => AW.rV (?_ : AW _ _ _ _ 10 _ _ _ _ _ _) v)
  refine AW.aload_n (i := 0) (a := 0) (by decide +kernel) rfl (?_ : AW _ _ _ _ 11 _ _ _ _ _ _)
  refine AW.aload_n (i := 1) (a := 46) (by decide +kernel) rfl (?_ : AW _ _ _ _ 12 _ _ _ _ _ _)
  refine AW.callVm (g := cf_Books_openDeals) (Sg := S_Books3) (pl := [46, 47, 48, 49, 50, 51]) (av := []) (b0 := 0) (ci := 0) (idx := 29) (n := 0) (st := [zR (some 0)]) (by decide +kernel) (fun l hl r hr => c_Books_openDeals l hl  _ r hr) sb_29 rfl cal_Books_openDeals rfl (zw4 zm_X3_29 zi_yX0_openDeals zs_yX0_openDeals zn_X0) rfl rfl ⟨by decide, by decide, by decide, by decide⟩ (Nat.le_of_ble_eq_true rfl) (Or.inl rfl) (fun v μ3 => AW.rI (fun x4 => (?_ : AW _ _ _ _ 15 _ _ _ _ _ _)) v)
  refine AW.callP (g := cf_Integer_bitCount) (av := [zI x4]) (idx := 33) (n := 1) (st := [zR (some 0)]) (by decide +kernel) (fun l hl r hr => c_Integer_bitCount l hl x4 _ r hr) rfl cal_Integer_bitCount rfl (zw3 zm_X3_33 zt_yJ6_bitCount_0f7a4 zn_J6) ⟨by decide, by decide, by decide, by decide⟩ (Nat.le_of_ble_eq_true rfl) (fun v _ => AW.kI (fun x6 => (?_ : AW _ _ _ _ 18 _ _ _ _ _ _)) v)
  refine AW.putiL (idx := 39) (ci := 3) (k := 3) (r := 0) (by decide +kernel) rfl rfl rfl (fun μ7 => (?_ : AW _ _ _ _ 21 _ _ _ _ _ _))
  refine AW.aload_n (i := 0) (a := 0) (by decide +kernel) rfl (?_ : AW _ _ _ _ 22 _ _ _ _ _ _)
  refine AW.ldc2 (idx := 43) (v := -1) (by decide +kernel) zk_X3_43 (?_ : AW _ _ _ _ 25 _ _ _ _ _ _)
  refine AW.putlL (idx := 45) (ci := 3) (k := 4) (r := 0) (by decide +kernel) rfl rfl rfl (fun μ8 => (?_ : AW _ _ _ _ 28 _ _ _ _ _ _))
  refine AW.aload_n (i := 0) (a := 0) (by decide +kernel) rfl (?_ : AW _ _ _ _ 29 _ _ _ _ _ _)
  refine AW.iconst (n := 0) (by decide +kernel) (?_ : AW _ _ _ _ 30 _ _ _ _ _ _)
  refine AW.callVm (g := cf_Orders_tryFrom_0) (Sg := S_Orders2) (pl := [0, 1, 2, 3, 4, 5, 6, 7, 8, 9, 10, 11, 12, 13, 14, 15, 16, 17, 18, 19, 20, 21, 22, 23, 24, 25, 26, 27, 28, 29, 30, 31, 32, 33, 34, 35, 36, 37, 38, 39, 40, 41, 42, 43, 44, 45]) (av := [zI 0]) (b0 := 0) (ci := 3) (idx := 49) (n := 1) (st := []) (by decide +kernel) (fun l hl r hr => c_Orders_tryFrom_0 l hl  _ r hr) sb_43 rfl cal_Orders_tryFrom_0 rfl (zw4 zm_X3_49 zi_yX3_tryFrom zs_yX3_tryFrom zn_X3) rfl rfl ⟨by decide, by decide, by decide, by decide⟩ (Nat.le_of_ble_eq_true rfl) (Or.inl rfl) (fun v μ9 => AW.rV (?_ : AW _ _ _ _ 33 _ _ _ _ _ _) v)
  exact AW.retv (by decide +kernel) rfl (by decide) (by decide)
theorem c_Orders_search (l : Launch) (hl : l.stackTraces = false) (μ : ZMem) (r : ZRes) (h : F_Orders_search μ = some r) : ZC l cf_Orders_search S_Orders S_Orders [zR (some 0), zR (some 46)] μ r := ZC.of hl (by decide +kernel) rfl rfl zft_X3_ok (Nat.le_of_ble_eq_true rfl) h (w_Orders_search μ)
