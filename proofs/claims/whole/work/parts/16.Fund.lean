def S_Fund : List ZSh := [.inl (1, [(2, some 1), (2, some 2), (2, some 3), (0, none), (0, none), (3, none)]), .inr (0, 7, []), .inr (0, 6, []), .inr (0, 6, [])]
theorem S_Fund_wf : zWfS S_Fund.length S_Fund = true ∧ Nat.ble S_Fund.length 1000 = true := ⟨by decide +kernel, rfl⟩
def S_A8 : List ZSh := [.inr (0, 7, [])]
theorem S_A8_wf : zWfS S_A8.length S_A8 = true ∧ Nat.ble S_A8.length 1000 = true := ⟨by decide +kernel, rfl⟩
/-! java/util/Arrays.fill([II)V -/
def cf_Arrays_fill_w8 : ZCf := (yJ7_fill_53178, cJ7_fill_53178, 4, none, [], 2, 0, 0, [], none)
theorem cal_Arrays_fill_w8 : zCallee cf_Arrays_fill_w8 2 := ⟨rfl, zc_yJ7_fill_53178, by decide, by decide, by decide +kernel⟩
def L_Arrays_fill_w8_5 (c1 : Int) (K : ZMem → Option ZRes) : Nat → Int → ZMem → Option ZRes
  | 0, _, _ => none
  | n + 1, v2, μ => if w32 7 ≤ w32 v2 then (K  μ) else (zWr μ 0 7 v2 c1 (fun μ1 => zLet (v2 + 1) (fun x2 => L_Arrays_fill_w8_5 c1 K n x2 μ1)))
set_option maxRecDepth 100000 in
theorem l_Arrays_fill_w8_5 {c1 : Int} {K : ZMem → Option ZRes} (hK : ∀ (μ : ZMem), AW cf_Arrays_fill_w8 S_A8.length S_A8 S_A8 20 [] [] μ 0 0 (K μ)) : ∀ (n : Nat) (v2 : Int) (μ : ZMem), AW cf_Arrays_fill_w8 S_A8.length S_A8 S_A8 5 [(0, zR (some 0)), (1, zI c1), (2, zI v2), (3, zI 7)] [] μ 0 0 (L_Arrays_fill_w8_5 c1 K n v2 μ) := by
  intro n
  induction n with
  | zero => intro v2 μ; exact AW.noth
  | succ n ih =>
    intro v2 μ
    rw [L_Arrays_fill_w8_5]
    refine AW.iload_n (i := 2) (a := v2) (by decide +kernel) rfl (?_ : AW _ _ _ _ 6 _ _ _ _ _ _)
    refine AW.iload_n (i := 3) (a := 7) (by decide +kernel) rfl (?_ : AW _ _ _ _ 7 _ _ _ _ _ _)
    refine AW.icmp_ge (off := 13) (tgt := 20) (by decide +kernel) (by decide) (fun _ => ?_) (fun _ => ?_)
    · refine AW.sub (L' := []) [] rfl ?_
      exact hK  μ
    · refine AW.aload_n (i := 0) (a := 0) (by decide +kernel) rfl (?_ : AW _ _ _ _ 11 _ _ _ _ _ _)
      refine AW.iload_n (i := 2) (a := v2) (by decide +kernel) rfl (?_ : AW _ _ _ _ 12 _ _ _ _ _ _)
      refine AW.iload_n (i := 1) (a := c1) (by decide +kernel) rfl (?_ : AW _ _ _ _ 13 _ _ _ _ _ _)
      refine AW.iastL (r := 0) (by decide +kernel) rfl (fun μ1 => (?_ : AW _ _ _ _ 14 _ _ _ _ _ _))
      refine AW.iincL (i := 2) (n := 1) (a := v2) (L' := fun x2 => [(2, zI x2), (0, zR (some 0)), (1, zI c1), (3, zI 7)]) (by decide +kernel) rfl (by decide) (fun _ => rfl) (fun x2 => (?_ : AW _ _ _ _ 17 _ _ _ _ _ _))
      refine AW.goto (off := -12) (tgt := 5) (by decide +kernel) (by decide) ?_
      refine AW.sub (L' := [(0, zR (some 0)), (1, zI c1), (2, zI x2), (3, zI 7)]) [1, 2, 0, 3] rfl ?_
      exact ih x2 μ1
def F_Arrays_fill_w8 (a1 : Int) (μ : ZMem) : Option ZRes := L_Arrays_fill_w8_5 a1 (fun μ3 => some (.inr none, μ3)) zN 0 μ
set_option maxRecDepth 100000 in
theorem w_Arrays_fill_w8 (a1 : Int) (μ : ZMem) : AW cf_Arrays_fill_w8 S_A8.length S_A8 S_A8 0 [(0, zR (some 0)), (1, zI a1)] [] μ 0 0 (F_Arrays_fill_w8 a1 μ) := by
  unfold F_Arrays_fill_w8
  refine AW.iconst (n := 0) (by decide +kernel) (?_ : AW _ _ _ _ 1 _ _ _ _ _ _)
  refine AW.istore_n' (i := 2) (L' := [(2, zI 0), (0, zR (some 0)), (1, zI a1)]) (by decide +kernel) (by decide) rfl (?_ : AW _ _ _ _ 2 _ _ _ _ _ _)
  refine AW.aload_n (i := 0) (a := 0) (by decide +kernel) rfl (?_ : AW _ _ _ _ 3 _ _ _ _ _ _)
  refine AW.alen (r := 0) (by decide +kernel) rfl (by decide) (?_ : AW _ _ _ _ 4 _ _ _ _ _ _)
  refine AW.istore_n' (i := 3) (L' := [(3, zI 7), (2, zI 0), (0, zR (some 0)), (1, zI a1)]) (by decide +kernel) (by decide) rfl (?_ : AW _ _ _ _ 5 _ _ _ _ _ _)
  refine AW.sub (L' := [(0, zR (some 0)), (1, zI a1), (2, zI 0), (3, zI 7)]) [2, 3, 1, 0] rfl ?_
  refine l_Arrays_fill_w8_5 (fun μ3 => ?_) zN _ _
  exact AW.retv (by decide +kernel) rfl (by decide) (by decide)
theorem c_Arrays_fill_w8 (l : Launch) (hl : l.stackTraces = false) (a1 : Int) (μ : ZMem) (r : ZRes) (h : F_Arrays_fill_w8 a1 μ = some r) : ZC l cf_Arrays_fill_w8 S_A8 S_A8 [zR (some 0), zI a1] μ r := ZC.of hl (by decide +kernel) rfl rfl (fun _ h => absurd h List.not_mem_nil) (Nat.le_of_ble_eq_true rfl) h (w_Arrays_fill_w8 a1 μ)
theorem sb_7 : zSub S_Fund [1] S_A8 := ⟨rfl, by decide +kernel, by decide +kernel, rfl⟩
theorem sb_8 : zSub S_Fund [2] S_A4 := ⟨rfl, by decide +kernel, by decide +kernel, rfl⟩
theorem sb_9 : zSub S_Fund [3] S_A4 := ⟨rfl, by decide +kernel, by decide +kernel, rfl⟩
/-! WeirLedger$Fund.clear()V -/
def cf_Fund_clear : ZCf := (yX1_clear, cX1_clear, 1, none, [], 3, 0, 0, zft_X1, none)
theorem cal_Fund_clear : zCallee cf_Fund_clear 0 := ⟨rfl, zc_yX1_clear, by decide, by decide, by decide +kernel⟩
def F_Fund_clear (μ : ZMem) : Option ZRes := zCm [1] μ (F_Arrays_fill_w8 0 (zVw [1] μ)) (zkV (fun μ1 => zCm [2] μ1 (F_Arrays_fill_w4 0 (zVw [2] μ1)) (zkV (fun μ3 => zCm [3] μ3 (F_Arrays_fill_w4 0 (zVw [3] μ3)) (zkV (fun μ5 => zLet (zUp μ5 0 3 0) (fun μ7 => zLet (zUp μ7 0 4 0) (fun μ8 => zLet (zUp μ8 0 5 0) (fun μ9 => some (.inr none, μ9)))))) zX0)) zX0)) zX0
set_option maxRecDepth 100000 in
theorem w_Fund_clear (μ : ZMem) : AW cf_Fund_clear S_Fund.length S_Fund S_Fund 0 [(0, zR (some 0))] [] μ 0 0 (F_Fund_clear μ) := by
  unfold F_Fund_clear
  refine AW.aload_n (i := 0) (a := 0) (by decide +kernel) rfl (?_ : AW _ _ _ _ 1 _ _ _ _ _ _)
  refine AW.getR (idx := 9) (ci := 1) (k := 0) (r := 0) (by decide +kernel) rfl rfl rfl (?_ : AW _ _ _ _ 4 _ _ _ _ _ _)
  refine AW.iconst (n := 0) (by decide +kernel) (?_ : AW _ _ _ _ 5 _ _ _ _ _ _)
  refine AW.callSm (g := cf_Arrays_fill_w8) (Sg := S_A8) (pl := [1]) (av := [zR (some 0), zI 0]) (idx := 21) (n := 2) (st := []) (by decide +kernel) (fun l hl r hr => c_Arrays_fill_w8 l hl 0 _ r hr) sb_7 rfl cal_Arrays_fill_w8 rfl (zw3 zm_X1_21 zt_yJ7_fill_53178 zn_J7) ⟨by decide, by decide, by decide, by decide⟩ (Nat.le_of_ble_eq_true rfl) (Or.inl rfl) (fun v μ1 => AW.rV (?_ : AW _ _ _ _ 8 _ _ _ _ _ _) v)
  refine AW.aload_n (i := 0) (a := 0) (by decide +kernel) rfl (?_ : AW _ _ _ _ 9 _ _ _ _ _ _)
  refine AW.getR (idx := 15) (ci := 1) (k := 1) (r := 0) (by decide +kernel) rfl rfl rfl (?_ : AW _ _ _ _ 12 _ _ _ _ _ _)
  refine AW.iconst (n := 0) (by decide +kernel) (?_ : AW _ _ _ _ 13 _ _ _ _ _ _)
  refine AW.callSm (g := cf_Arrays_fill_w4) (Sg := S_A4) (pl := [2]) (av := [zR (some 0), zI 0]) (idx := 21) (n := 2) (st := []) (by decide +kernel) (fun l hl r hr => c_Arrays_fill_w4 l hl 0 _ r hr) sb_8 rfl cal_Arrays_fill_w4 rfl (zw3 zm_X1_21 zt_yJ7_fill_53178 zn_J7) ⟨by decide, by decide, by decide, by decide⟩ (Nat.le_of_ble_eq_true rfl) (Or.inl rfl) (fun v μ3 => AW.rV (?_ : AW _ _ _ _ 16 _ _ _ _ _ _) v)
  refine AW.aload_n (i := 0) (a := 0) (by decide +kernel) rfl (?_ : AW _ _ _ _ 17 _ _ _ _ _ _)
  refine AW.getR (idx := 18) (ci := 1) (k := 2) (r := 0) (by decide +kernel) rfl rfl rfl (?_ : AW _ _ _ _ 20 _ _ _ _ _ _)
  refine AW.iconst (n := 0) (by decide +kernel) (?_ : AW _ _ _ _ 21 _ _ _ _ _ _)
  refine AW.callSm (g := cf_Arrays_fill_w4) (Sg := S_A4) (pl := [3]) (av := [zR (some 0), zI 0]) (idx := 21) (n := 2) (st := []) (by decide +kernel) (fun l hl r hr => c_Arrays_fill_w4 l hl 0 _ r hr) sb_9 rfl cal_Arrays_fill_w4 rfl (zw3 zm_X1_21 zt_yJ7_fill_53178 zn_J7) ⟨by decide, by decide, by decide, by decide⟩ (Nat.le_of_ble_eq_true rfl) (Or.inl rfl) (fun v μ5 => AW.rV (?_ : AW _ _ _ _ 24 _ _ _ _ _ _) v)
  refine AW.aload_n (i := 0) (a := 0) (by decide +kernel) rfl (?_ : AW _ _ _ _ 25 _ _ _ _ _ _)
  refine AW.iconst (n := 0) (by decide +kernel) (?_ : AW _ _ _ _ 26 _ _ _ _ _ _)
  refine AW.putiL (idx := 27) (ci := 1) (k := 3) (r := 0) (by decide +kernel) rfl rfl rfl (fun μ7 => (?_ : AW _ _ _ _ 29 _ _ _ _ _ _))
  refine AW.aload_n (i := 0) (a := 0) (by decide +kernel) rfl (?_ : AW _ _ _ _ 30 _ _ _ _ _ _)
  refine AW.iconst (n := 0) (by decide +kernel) (?_ : AW _ _ _ _ 31 _ _ _ _ _ _)
  refine AW.putiL (idx := 31) (ci := 1) (k := 4) (r := 0) (by decide +kernel) rfl rfl rfl (fun μ8 => (?_ : AW _ _ _ _ 34 _ _ _ _ _ _))
  refine AW.aload_n (i := 0) (a := 0) (by decide +kernel) rfl (?_ : AW _ _ _ _ 35 _ _ _ _ _ _)
  refine AW.iconst (n := 0) (by decide +kernel) (?_ : AW _ _ _ _ 36 _ _ _ _ _ _)
  refine AW.putb1L (idx := 34) (ci := 1) (k := 5) (r := 0) (by decide +kernel) rfl rfl rfl (by decide) (fun μ9 => (?_ : AW _ _ _ _ 39 _ _ _ _ _ _))
  exact AW.retv (by decide +kernel) rfl (by decide) (by decide)
theorem c_Fund_clear (l : Launch) (hl : l.stackTraces = false) (μ : ZMem) (r : ZRes) (h : F_Fund_clear μ = some r) : ZC l cf_Fund_clear S_Fund S_Fund [zR (some 0)] μ r := ZC.of hl (by decide +kernel) rfl rfl zft_X1_ok (Nat.le_of_ble_eq_true rfl) h (w_Fund_clear μ)
def S_Fund2 : List ZSh := [.inl (1, [(2, some 1), (2, some 2), (2, some 3), (0, none), (0, none), (3, none)]), .inr (0, 7, []), .inr (0, 6, []), .inr (0, 6, []), .inl (1, [(2, some 5), (2, some 6), (2, some 7), (0, none), (0, none), (3, none)]), .inr (0, 7, []), .inr (0, 6, []), .inr (0, 6, [])]
theorem S_Fund2_wf : zWfS S_Fund2.length S_Fund2 = true ∧ Nat.ble S_Fund2.length 1000 = true := ⟨by decide +kernel, rfl⟩
/-! WeirLedger$Fund.copyFrom(LWeirLedger$Fund;)V -/
def cf_Fund_copyFrom : ZCf := (yX1_copyFrom, cX1_copyFrom, 2, none, [], 2, 0, 0, zft_X1, none)
theorem cal_Fund_copyFrom : zCallee cf_Fund_copyFrom 1 := ⟨rfl, zc_yX1_copyFrom, by decide, by decide, by decide +kernel⟩
def F_Fund_copyFrom (μ : ZMem) : Option ZRes := zLet (zCopy μ 5 1 7) (fun μ1 => zLet (zCopy μ1 6 2 6) (fun μ2 => zLet (zCopy μ2 7 3 6) (fun μ3 => zLet (zUp μ3 0 3 (μ3 4 3)) (fun μ4 => zLet (zUp μ4 0 4 (μ4 4 4)) (fun μ5 => if (μ5 4 5) = 0 ∨ (μ5 4 5) = 1 then zLet (zUp μ5 0 5 (μ5 4 5)) (fun μ6 => some (.inr none, μ6)) else none)))))
set_option maxRecDepth 100000 in
theorem w_Fund_copyFrom (μ : ZMem) : AW cf_Fund_copyFrom S_Fund2.length S_Fund2 S_Fund2 0 [(0, zR (some 0)), (1, zR (some 4))] [] μ 0 0 (F_Fund_copyFrom μ) := by
  unfold F_Fund_copyFrom
  refine AW.aload_n (i := 1) (a := 4) (by decide +kernel) rfl (?_ : AW _ _ _ _ 1 _ _ _ _ _ _)
  refine AW.getR (idx := 9) (ci := 1) (k := 0) (r := 4) (by decide +kernel) rfl rfl rfl (?_ : AW _ _ _ _ 4 _ _ _ _ _ _)
  refine AW.iconst (n := 0) (by decide +kernel) (?_ : AW _ _ _ _ 5 _ _ _ _ _ _)
  refine AW.aload_n (i := 0) (a := 0) (by decide +kernel) rfl (?_ : AW _ _ _ _ 6 _ _ _ _ _ _)
  refine AW.getR (idx := 9) (ci := 1) (k := 0) (r := 0) (by decide +kernel) rfl rfl rfl (?_ : AW _ _ _ _ 9 _ _ _ _ _ _)
  refine AW.iconst (n := 0) (by decide +kernel) (?_ : AW _ _ _ _ 10 _ _ _ _ _ _)
  refine AW.bipush (n := 7) (by decide +kernel) (by decide +kernel) (?_ : AW _ _ _ _ 12 _ _ _ _ _ _)
  refine AW.copyI (idx := 38) (r0 := 5) (r1 := 1) (n := 7) (by decide +kernel) zm_X1_38 rfl rfl (by decide) (by decide) rfl (fun μ1 => (?_ : AW _ _ _ _ 15 _ _ _ _ _ _))
  refine AW.aload_n (i := 1) (a := 4) (by decide +kernel) rfl (?_ : AW _ _ _ _ 16 _ _ _ _ _ _)
  refine AW.getR (idx := 15) (ci := 1) (k := 1) (r := 4) (by decide +kernel) rfl rfl rfl (?_ : AW _ _ _ _ 19 _ _ _ _ _ _)
  refine AW.iconst (n := 0) (by decide +kernel) (?_ : AW _ _ _ _ 20 _ _ _ _ _ _)
  refine AW.aload_n (i := 0) (a := 0) (by decide +kernel) rfl (?_ : AW _ _ _ _ 21 _ _ _ _ _ _)
  refine AW.getR (idx := 15) (ci := 1) (k := 1) (r := 0) (by decide +kernel) rfl rfl rfl (?_ : AW _ _ _ _ 24 _ _ _ _ _ _)
  refine AW.iconst (n := 0) (by decide +kernel) (?_ : AW _ _ _ _ 25 _ _ _ _ _ _)
  refine AW.bipush (n := 6) (by decide +kernel) (by decide +kernel) (?_ : AW _ _ _ _ 27 _ _ _ _ _ _)
  refine AW.copyI (idx := 38) (r0 := 6) (r1 := 2) (n := 6) (by decide +kernel) zm_X1_38 rfl rfl (by decide) (by decide) rfl (fun μ2 => (?_ : AW _ _ _ _ 30 _ _ _ _ _ _))
  refine AW.aload_n (i := 1) (a := 4) (by decide +kernel) rfl (?_ : AW _ _ _ _ 31 _ _ _ _ _ _)
  refine AW.getR (idx := 18) (ci := 1) (k := 2) (r := 4) (by decide +kernel) rfl rfl rfl (?_ : AW _ _ _ _ 34 _ _ _ _ _ _)
  refine AW.iconst (n := 0) (by decide +kernel) (?_ : AW _ _ _ _ 35 _ _ _ _ _ _)
  refine AW.aload_n (i := 0) (a := 0) (by decide +kernel) rfl (?_ : AW _ _ _ _ 36 _ _ _ _ _ _)
  refine AW.getR (idx := 18) (ci := 1) (k := 2) (r := 0) (by decide +kernel) rfl rfl rfl (?_ : AW _ _ _ _ 39 _ _ _ _ _ _)
  refine AW.iconst (n := 0) (by decide +kernel) (?_ : AW _ _ _ _ 40 _ _ _ _ _ _)
  refine AW.bipush (n := 6) (by decide +kernel) (by decide +kernel) (?_ : AW _ _ _ _ 42 _ _ _ _ _ _)
  refine AW.copyI (idx := 38) (r0 := 7) (r1 := 3) (n := 6) (by decide +kernel) zm_X1_38 rfl rfl (by decide) (by decide) rfl (fun μ3 => (?_ : AW _ _ _ _ 45 _ _ _ _ _ _))
  refine AW.aload_n (i := 0) (a := 0) (by decide +kernel) rfl (?_ : AW _ _ _ _ 46 _ _ _ _ _ _)
  refine AW.aload_n (i := 1) (a := 4) (by decide +kernel) rfl (?_ : AW _ _ _ _ 47 _ _ _ _ _ _)
  refine AW.getI (idx := 27) (ci := 1) (k := 3) (r := 4) (by decide +kernel) rfl rfl rfl (?_ : AW _ _ _ _ 50 _ _ _ _ _ _)
  refine AW.putiL (idx := 27) (ci := 1) (k := 3) (r := 0) (by decide +kernel) rfl rfl rfl (fun μ4 => (?_ : AW _ _ _ _ 53 _ _ _ _ _ _))
  refine AW.aload_n (i := 0) (a := 0) (by decide +kernel) rfl (?_ : AW _ _ _ _ 54 _ _ _ _ _ _)
  refine AW.aload_n (i := 1) (a := 4) (by decide +kernel) rfl (?_ : AW _ _ _ _ 55 _ _ _ _ _ _)
  refine AW.getI (idx := 31) (ci := 1) (k := 4) (r := 4) (by decide +kernel) rfl rfl rfl (?_ : AW _ _ _ _ 58 _ _ _ _ _ _)
  refine AW.putiL (idx := 31) (ci := 1) (k := 4) (r := 0) (by decide +kernel) rfl rfl rfl (fun μ5 => (?_ : AW _ _ _ _ 61 _ _ _ _ _ _))
  refine AW.aload_n (i := 0) (a := 0) (by decide +kernel) rfl (?_ : AW _ _ _ _ 62 _ _ _ _ _ _)
  refine AW.aload_n (i := 1) (a := 4) (by decide +kernel) rfl (?_ : AW _ _ _ _ 63 _ _ _ _ _ _)
  refine AW.getZ (idx := 34) (ci := 1) (k := 5) (r := 4) (by decide +kernel) rfl rfl rfl (?_ : AW _ _ _ _ 66 _ _ _ _ _ _)
  refine AW.putbL (idx := 34) (ci := 1) (k := 5) (r := 0) (by decide +kernel) rfl rfl rfl (fun μ6 => (?_ : AW _ _ _ _ 69 _ _ _ _ _ _))
  exact AW.retv (by decide +kernel) rfl (by decide) (by decide)
theorem c_Fund_copyFrom (l : Launch) (hl : l.stackTraces = false) (μ : ZMem) (r : ZRes) (h : F_Fund_copyFrom μ = some r) : ZC l cf_Fund_copyFrom S_Fund2 S_Fund2 [zR (some 0), zR (some 4)] μ r := ZC.of hl (by decide +kernel) rfl rfl zft_X1_ok (Nat.le_of_ble_eq_true rfl) h (w_Fund_copyFrom μ)
def S_Fund3 : List ZSh := [.inl (1, [(2, some 1), (2, some 2), (2, some 3), (0, none), (0, none), (3, none)]), .inr (0, 7, []), .inr (0, 6, []), .inr (0, 6, []), .inl (6, [(2, some 5), (0, none), (0, none), (0, none)]), .inr (0, 400, [])]
theorem S_Fund3_wf : zWfS S_Fund3.length S_Fund3 = true ∧ Nat.ble S_Fund3.length 1000 = true := ⟨by decide +kernel, rfl⟩
theorem sb_10 : zSub S_Fund3 [0, 1, 2, 3] S_Fund := ⟨rfl, by decide +kernel, by decide +kernel, rfl⟩
theorem sb_11 : zSub S_Fund3 [4, 5] S_Text := ⟨rfl, by decide +kernel, by decide +kernel, rfl⟩
/-! WeirLedger$Fund.termWord(I)Ljava/lang/String; -/
def cf_Fund_termWord_0 : ZCf := (yX1_termWord, cX1_termWord, 1, some (.object "java/lang/String"), [], 2, 0, 0, zft_X1, none)
theorem cal_Fund_termWord_0 : zCallee cf_Fund_termWord_0 1 := ⟨rfl, zc_yX1_termWord, by decide, by decide, by decide +kernel⟩
def F_Fund_termWord_0 (μ : ZMem) : Option ZRes := some (.inr (some (zR (some 1000000))), μ)
set_option maxRecDepth 100000 in
theorem w_Fund_termWord_0 (μ : ZMem) : AW cf_Fund_termWord_0 S_E.length S_E S_E 0 [(0, zI 0)] [] μ 0 0 (F_Fund_termWord_0 μ) := by
  unfold F_Fund_termWord_0
  refine AW.iload_n (i := 0) (a := 0) (by decide +kernel) rfl (?_ : AW _ _ _ _ 1 _ _ _ _ _ _)
  refine AW.pos (cnd := w32 0 = 0) (o2 := none) (by decide +kernel) (AW.tswC (dflt := 57) (lo := 0) (hi := 5) (offs := #[39, 42, 45, 48, 51, 54]) (len := 39) (k := 0) (off := 39) (tgt := 40) (by decide +kernel) (by decide) (by decide) rfl (by decide) (fun _ => ?_) (fun _ => AW.noth))
  refine AW.ldcs (idx := 86) (tx := "hurdle") (j := 0) (q := 1000000) (by decide +kernel) (by decide +kernel) rfl (?_ : AW _ _ _ _ 42 _ _ _ _ _ _)
  exact AW.reta (by decide +kernel) rfl (by decide) (by decide) (by decide)
theorem c_Fund_termWord_0 (l : Launch) (hl : l.stackTraces = false) (μ : ZMem) (r : ZRes) (h : F_Fund_termWord_0 μ = some r) : ZC l cf_Fund_termWord_0 S_E S_E [zI 0] μ r := ZC.of hl (by decide +kernel) rfl rfl zft_X1_ok (Nat.le_of_ble_eq_true rfl) h (w_Fund_termWord_0 μ)
/-! WeirLedger$Fund.termWord(I)Ljava/lang/String; -/
def cf_Fund_termWord_1 : ZCf := (yX1_termWord, cX1_termWord, 1, some (.object "java/lang/String"), [], 2, 0, 0, zft_X1, none)
theorem cal_Fund_termWord_1 : zCallee cf_Fund_termWord_1 1 := ⟨rfl, zc_yX1_termWord, by decide, by decide, by decide +kernel⟩
def F_Fund_termWord_1 (μ : ZMem) : Option ZRes := some (.inr (some (zR (some 1000001))), μ)
set_option maxRecDepth 100000 in
theorem w_Fund_termWord_1 (μ : ZMem) : AW cf_Fund_termWord_1 S_E.length S_E S_E 0 [(0, zI 1)] [] μ 0 0 (F_Fund_termWord_1 μ) := by
  unfold F_Fund_termWord_1
  refine AW.iload_n (i := 0) (a := 1) (by decide +kernel) rfl (?_ : AW _ _ _ _ 1 _ _ _ _ _ _)
  refine AW.pos (cnd := w32 1 = 1) (o2 := none) (by decide +kernel) (AW.tswC (dflt := 57) (lo := 0) (hi := 5) (offs := #[39, 42, 45, 48, 51, 54]) (len := 39) (k := 1) (off := 42) (tgt := 43) (by decide +kernel) (by decide) (by decide) rfl (by decide) (fun _ => ?_) (fun _ => AW.noth))
  refine AW.ldcs (idx := 88) (tx := "catch") (j := 1) (q := 1000001) (by decide +kernel) (by decide +kernel) rfl (?_ : AW _ _ _ _ 45 _ _ _ _ _ _)
  exact AW.reta (by decide +kernel) rfl (by decide) (by decide) (by decide)
theorem c_Fund_termWord_1 (l : Launch) (hl : l.stackTraces = false) (μ : ZMem) (r : ZRes) (h : F_Fund_termWord_1 μ = some r) : ZC l cf_Fund_termWord_1 S_E S_E [zI 1] μ r := ZC.of hl (by decide +kernel) rfl rfl zft_X1_ok (Nat.le_of_ble_eq_true rfl) h (w_Fund_termWord_1 μ)
/-! WeirLedger$Fund.termWord(I)Ljava/lang/String; -/
def cf_Fund_termWord_2 : ZCf := (yX1_termWord, cX1_termWord, 1, some (.object "java/lang/String"), [], 2, 0, 0, zft_X1, none)
theorem cal_Fund_termWord_2 : zCallee cf_Fund_termWord_2 1 := ⟨rfl, zc_yX1_termWord, by decide, by decide, by decide +kernel⟩
def F_Fund_termWord_2 (μ : ZMem) : Option ZRes := some (.inr (some (zR (some 1000002))), μ)
set_option maxRecDepth 100000 in
theorem w_Fund_termWord_2 (μ : ZMem) : AW cf_Fund_termWord_2 S_E.length S_E S_E 0 [(0, zI 2)] [] μ 0 0 (F_Fund_termWord_2 μ) := by
  unfold F_Fund_termWord_2
  refine AW.iload_n (i := 0) (a := 2) (by decide +kernel) rfl (?_ : AW _ _ _ _ 1 _ _ _ _ _ _)
  refine AW.pos (cnd := w32 2 = 2) (o2 := none) (by decide +kernel) (AW.tswC (dflt := 57) (lo := 0) (hi := 5) (offs := #[39, 42, 45, 48, 51, 54]) (len := 39) (k := 2) (off := 45) (tgt := 46) (by decide +kernel) (by decide) (by decide) rfl (by decide) (fun _ => ?_) (fun _ => AW.noth))
  refine AW.ldcs (idx := 90) (tx := "carry") (j := 2) (q := 1000002) (by decide +kernel) (by decide +kernel) rfl (?_ : AW _ _ _ _ 48 _ _ _ _ _ _)
  exact AW.reta (by decide +kernel) rfl (by decide) (by decide) (by decide)
theorem c_Fund_termWord_2 (l : Launch) (hl : l.stackTraces = false) (μ : ZMem) (r : ZRes) (h : F_Fund_termWord_2 μ = some r) : ZC l cf_Fund_termWord_2 S_E S_E [zI 2] μ r := ZC.of hl (by decide +kernel) rfl rfl zft_X1_ok (Nat.le_of_ble_eq_true rfl) h (w_Fund_termWord_2 μ)
/-! WeirLedger$Fund.termWord(I)Ljava/lang/String; -/
def cf_Fund_termWord_3 : ZCf := (yX1_termWord, cX1_termWord, 1, some (.object "java/lang/String"), [], 2, 0, 0, zft_X1, none)
theorem cal_Fund_termWord_3 : zCallee cf_Fund_termWord_3 1 := ⟨rfl, zc_yX1_termWord, by decide, by decide, by decide +kernel⟩
def F_Fund_termWord_3 (μ : ZMem) : Option ZRes := some (.inr (some (zR (some 1000003))), μ)
set_option maxRecDepth 100000 in
theorem w_Fund_termWord_3 (μ : ZMem) : AW cf_Fund_termWord_3 S_E.length S_E S_E 0 [(0, zI 3)] [] μ 0 0 (F_Fund_termWord_3 μ) := by
  unfold F_Fund_termWord_3
  refine AW.iload_n (i := 0) (a := 3) (by decide +kernel) rfl (?_ : AW _ _ _ _ 1 _ _ _ _ _ _)
  refine AW.pos (cnd := w32 3 = 3) (o2 := none) (by decide +kernel) (AW.tswC (dflt := 57) (lo := 0) (hi := 5) (offs := #[39, 42, 45, 48, 51, 54]) (len := 39) (k := 3) (off := 48) (tgt := 49) (by decide +kernel) (by decide) (by decide) rfl (by decide) (fun _ => ?_) (fun _ => AW.noth))
  refine AW.ldcs (idx := 92) (tx := "dealwise") (j := 3) (q := 1000003) (by decide +kernel) (by decide +kernel) rfl (?_ : AW _ _ _ _ 51 _ _ _ _ _ _)
  exact AW.reta (by decide +kernel) rfl (by decide) (by decide) (by decide)
theorem c_Fund_termWord_3 (l : Launch) (hl : l.stackTraces = false) (μ : ZMem) (r : ZRes) (h : F_Fund_termWord_3 μ = some r) : ZC l cf_Fund_termWord_3 S_E S_E [zI 3] μ r := ZC.of hl (by decide +kernel) rfl rfl zft_X1_ok (Nat.le_of_ble_eq_true rfl) h (w_Fund_termWord_3 μ)
/-! WeirLedger$Fund.termWord(I)Ljava/lang/String; -/
def cf_Fund_termWord_4 : ZCf := (yX1_termWord, cX1_termWord, 1, some (.object "java/lang/String"), [], 2, 0, 0, zft_X1, none)
theorem cal_Fund_termWord_4 : zCallee cf_Fund_termWord_4 1 := ⟨rfl, zc_yX1_termWord, by decide, by decide, by decide +kernel⟩
def F_Fund_termWord_4 (μ : ZMem) : Option ZRes := some (.inr (some (zR (some 1000004))), μ)
set_option maxRecDepth 100000 in
theorem w_Fund_termWord_4 (μ : ZMem) : AW cf_Fund_termWord_4 S_E.length S_E S_E 0 [(0, zI 4)] [] μ 0 0 (F_Fund_termWord_4 μ) := by
  unfold F_Fund_termWord_4
  refine AW.iload_n (i := 0) (a := 4) (by decide +kernel) rfl (?_ : AW _ _ _ _ 1 _ _ _ _ _ _)
  refine AW.pos (cnd := w32 4 = 4) (o2 := none) (by decide +kernel) (AW.tswC (dflt := 57) (lo := 0) (hi := 5) (offs := #[39, 42, 45, 48, 51, 54]) (len := 39) (k := 4) (off := 51) (tgt := 52) (by decide +kernel) (by decide) (by decide) rfl (by decide) (fun _ => ?_) (fun _ => AW.noth))
  refine AW.ldcs (idx := 94) (tx := "tax") (j := 4) (q := 1000004) (by decide +kernel) (by decide +kernel) rfl (?_ : AW _ _ _ _ 54 _ _ _ _ _ _)
  exact AW.reta (by decide +kernel) rfl (by decide) (by decide) (by decide)
theorem c_Fund_termWord_4 (l : Launch) (hl : l.stackTraces = false) (μ : ZMem) (r : ZRes) (h : F_Fund_termWord_4 μ = some r) : ZC l cf_Fund_termWord_4 S_E S_E [zI 4] μ r := ZC.of hl (by decide +kernel) rfl rfl zft_X1_ok (Nat.le_of_ble_eq_true rfl) h (w_Fund_termWord_4 μ)
/-! WeirLedger$Fund.termWord(I)Ljava/lang/String; -/
def cf_Fund_termWord_5 : ZCf := (yX1_termWord, cX1_termWord, 1, some (.object "java/lang/String"), [], 2, 0, 0, zft_X1, none)
theorem cal_Fund_termWord_5 : zCallee cf_Fund_termWord_5 1 := ⟨rfl, zc_yX1_termWord, by decide, by decide, by decide +kernel⟩
def F_Fund_termWord_5 (μ : ZMem) : Option ZRes := some (.inr (some (zR (some 1000005))), μ)
set_option maxRecDepth 100000 in
theorem w_Fund_termWord_5 (μ : ZMem) : AW cf_Fund_termWord_5 S_E.length S_E S_E 0 [(0, zI 5)] [] μ 0 0 (F_Fund_termWord_5 μ) := by
  unfold F_Fund_termWord_5
  refine AW.iload_n (i := 0) (a := 5) (by decide +kernel) rfl (?_ : AW _ _ _ _ 1 _ _ _ _ _ _)
  refine AW.pos (cnd := w32 5 = 5) (o2 := none) (by decide +kernel) (AW.tswC (dflt := 57) (lo := 0) (hi := 5) (offs := #[39, 42, 45, 48, 51, 54]) (len := 39) (k := 5) (off := 54) (tgt := 55) (by decide +kernel) (by decide) (by decide) rfl (by decide) (fun _ => ?_) (fun _ => AW.noth))
  refine AW.ldcs (idx := 96) (tx := "held") (j := 5) (q := 1000005) (by decide +kernel) (by decide +kernel) rfl (?_ : AW _ _ _ _ 57 _ _ _ _ _ _)
  exact AW.reta (by decide +kernel) rfl (by decide) (by decide) (by decide)
theorem c_Fund_termWord_5 (l : Launch) (hl : l.stackTraces = false) (μ : ZMem) (r : ZRes) (h : F_Fund_termWord_5 μ = some r) : ZC l cf_Fund_termWord_5 S_E S_E [zI 5] μ r := ZC.of hl (by decide +kernel) rfl rfl zft_X1_ok (Nat.le_of_ble_eq_true rfl) h (w_Fund_termWord_5 μ)
/-! WeirLedger$Fund.termWord(I)Ljava/lang/String; -/
def cf_Fund_termWord_6 : ZCf := (yX1_termWord, cX1_termWord, 1, some (.object "java/lang/String"), [], 2, 0, 0, zft_X1, none)
theorem cal_Fund_termWord_6 : zCallee cf_Fund_termWord_6 1 := ⟨rfl, zc_yX1_termWord, by decide, by decide, by decide +kernel⟩
def F_Fund_termWord_6 (μ : ZMem) : Option ZRes := some (.inr (some (zR (some 1000006))), μ)
set_option maxRecDepth 100000 in
theorem w_Fund_termWord_6 (μ : ZMem) : AW cf_Fund_termWord_6 S_E.length S_E S_E 0 [(0, zI 6)] [] μ 0 0 (F_Fund_termWord_6 μ) := by
  unfold F_Fund_termWord_6
  refine AW.iload_n (i := 0) (a := 6) (by decide +kernel) rfl (?_ : AW _ _ _ _ 1 _ _ _ _ _ _)
  refine AW.tswD (dflt := 57) (lo := 0) (hi := 5) (offs := #[39, 42, 45, 48, 51, 54]) (len := 39) (tgt := 58) (by decide +kernel) (by decide +kernel) (by decide) ?_
  refine AW.ldcs (idx := 98) (tx := "fee") (j := 6) (q := 1000006) (by decide +kernel) (by decide +kernel) rfl (?_ : AW _ _ _ _ 60 _ _ _ _ _ _)
  exact AW.reta (by decide +kernel) rfl (by decide) (by decide) (by decide)
theorem c_Fund_termWord_6 (l : Launch) (hl : l.stackTraces = false) (μ : ZMem) (r : ZRes) (h : F_Fund_termWord_6 μ = some r) : ZC l cf_Fund_termWord_6 S_E S_E [zI 6] μ r := ZC.of hl (by decide +kernel) rfl rfl zft_X1_ok (Nat.le_of_ble_eq_true rfl) h (w_Fund_termWord_6 μ)
/-! WeirLedger$Fund.readTerms(LWeirLedger$Text;)Z -/
def cf_Fund_readTerms : ZCf := (yX1_readTerms, cX1_readTerms, 3, some .boolean, [], 11, 0, 0, zft_X1, none)
theorem cal_Fund_readTerms : zCallee cf_Fund_readTerms 1 := ⟨rfl, zc_yX1_readTerms, by decide, by decide, by decide +kernel⟩
def J_Fund_readTerms_2_7 (μ : ZMem) : Option ZRes := some (.inr (some (zI 1)), μ)
set_option maxRecDepth 100000 in
theorem j_Fund_readTerms_2_7 (μ : ZMem) : AW cf_Fund_readTerms S_Fund3.length S_Fund3 S_Fund3 2 [(0, zR (some 0)), (1, zR (some 4)), (2, zI 7)] [] μ 0 0 (J_Fund_readTerms_2_7 μ) := by
  unfold J_Fund_readTerms_2_7
  refine AW.iload_n (i := 2) (a := 7) (by decide +kernel) rfl (?_ : AW _ _ _ _ 3 _ _ _ _ _ _)
  refine AW.bipush (n := 7) (by decide +kernel) (by decide +kernel) (?_ : AW _ _ _ _ 5 _ _ _ _ _ _)
  refine AW.pos (cnd := w32 7 ≤ w32 7) (o2 := none) (by decide +kernel) (AW.icmp_ge (off := 54) (tgt := 59) (by decide +kernel) (by decide) (fun _ => ?_) (fun _ => AW.noth))
  refine AW.iconst (n := 1) (by decide +kernel) (?_ : AW _ _ _ _ 60 _ _ _ _ _ _)
  exact AW.retb1 (by decide +kernel) rfl (by decide) (by decide) (by decide)
def J_Fund_readTerms_53_6 (μ : ZMem) : Option ZRes := J_Fund_readTerms_2_7 μ
set_option maxRecDepth 100000 in
theorem j_Fund_readTerms_53_6 (μ : ZMem) : AW cf_Fund_readTerms S_Fund3.length S_Fund3 S_Fund3 53 [(0, zR (some 0)), (1, zR (some 4)), (2, zI 6)] [] μ 0 0 (J_Fund_readTerms_53_6 μ) := by
  unfold J_Fund_readTerms_53_6
  refine AW.iinc' (i := 2) (n := 1) (a := 6) (L' := [(2, zI 7), (0, zR (some 0)), (1, zR (some 4))]) (by decide +kernel) rfl (by decide) rfl (?_ : AW _ _ _ _ 56 _ _ _ _ _ _)
  refine AW.goto (off := -54) (tgt := 2) (by decide +kernel) (by decide) ?_
  refine AW.sub (L' := [(0, zR (some 0)), (1, zR (some 4)), (2, zI 7)]) [1, 2, 0] rfl ?_
  exact j_Fund_readTerms_2_7 μ
def J_Fund_readTerms_43 (y0 : Int) (y1 : Int) (μ : ZMem) : Option ZRes := zWr μ 1 7 y1 y0 (fun μ32 => zCm [4, 5] μ32 (F_Text_isRight  (zVw [4, 5] μ32)) (zkI (fun x34 μ33 => if w32 x34 = 0 then (some (.inr (some (zI 0)), μ33)) else (J_Fund_readTerms_53_6 μ33))) zX0)
set_option maxRecDepth 100000 in
theorem j_Fund_readTerms_43 (y0 : Int) (y1 : Int) (μ : ZMem) : AW cf_Fund_readTerms S_Fund3.length S_Fund3 S_Fund3 43 [(0, zR (some 0)), (1, zR (some 4)), (2, zI 6)] [zI y0, zI y1, zR (some 1)] μ 0 0 (J_Fund_readTerms_43 y0 y1 μ) := by
  unfold J_Fund_readTerms_43
  refine AW.iastL (r := 1) (by decide +kernel) rfl (fun μ32 => (?_ : AW _ _ _ _ 44 _ _ _ _ _ _))
  refine AW.aload_n (i := 1) (a := 4) (by decide +kernel) rfl (?_ : AW _ _ _ _ 45 _ _ _ _ _ _)
  refine AW.callVm (g := cf_Text_isRight) (Sg := S_Text) (pl := [4, 5]) (av := []) (b0 := 0) (ci := 6) (idx := 83) (n := 0) (st := []) (by decide +kernel) (fun l hl r hr => c_Text_isRight l hl  _ r hr) sb_11 rfl cal_Text_isRight rfl (zw4 zm_X1_83 zi_yX6_isRight zs_yX6_isRight zn_X6) rfl rfl ⟨by decide, by decide, by decide, by decide⟩ (Nat.le_of_ble_eq_true rfl) (Or.inl rfl) (fun v μ33 => AW.rI (fun x34 => (?_ : AW _ _ _ _ 48 _ _ _ _ _ _)) v)
  refine AW.if_ne (off := 5) (tgt := 53) (by decide +kernel) (by decide) (fun _ => ?_) (fun _ => ?_)
  · refine AW.iconst (n := 0) (by decide +kernel) (?_ : AW _ _ _ _ 52 _ _ _ _ _ _)
    exact AW.retb1 (by decide +kernel) rfl (by decide) (by decide) (by decide)
  · exact j_Fund_readTerms_53_6 μ33
def J_Fund_readTerms_2_6 (μ : ZMem) : Option ZRes := zC (F_Fund_termWord_6  μ) (zkRc 1000006 (fun _ => zCm [4, 5] μ (F_Text_takeWord 6 (zVw [4, 5] μ)) (zkI (fun x28 μ27 => if w32 x28 = 0 then (J_Fund_readTerms_53_6 μ27) else (zTop 6 (fun x29 => zCm [4, 5] μ27 (F_Text_takeNumber 0 x29 (zVw [4, 5] μ27)) (zkI (fun x31 μ30 => J_Fund_readTerms_43 x31 6 μ30)) zX0)))) zX0)) zX0
set_option maxRecDepth 100000 in
theorem j_Fund_readTerms_2_6 (μ : ZMem) : AW cf_Fund_readTerms S_Fund3.length S_Fund3 S_Fund3 2 [(0, zR (some 0)), (1, zR (some 4)), (2, zI 6)] [] μ 0 0 (J_Fund_readTerms_2_6 μ) := by
  unfold J_Fund_readTerms_2_6
  refine AW.iload_n (i := 2) (a := 6) (by decide +kernel) rfl (?_ : AW _ _ _ _ 3 _ _ _ _ _ _)
  refine AW.bipush (n := 7) (by decide +kernel) (by decide +kernel) (?_ : AW _ _ _ _ 5 _ _ _ _ _ _)
  refine AW.neg (cnd := w32 7 ≤ w32 6) (o1 := none) (by decide +kernel) (AW.icmp_ge (off := 54) (tgt := 59) (by decide +kernel) (by decide) (fun _ => AW.noth) (fun _ => ?_))
  refine AW.aload_n (i := 1) (a := 4) (by decide +kernel) rfl (?_ : AW _ _ _ _ 9 _ _ _ _ _ _)
  refine AW.iload_n (i := 2) (a := 6) (by decide +kernel) rfl (?_ : AW _ _ _ _ 10 _ _ _ _ _ _)
  refine AW.callP (g := cf_Fund_termWord_6) (av := [zI 6]) (idx := 72) (n := 1) (st := [zR (some 4)]) (by decide +kernel) (fun l hl r hr => c_Fund_termWord_6 l hl  _ r hr) rfl cal_Fund_termWord_6 rfl (zw3 zm_X1_72 zt_yX1_termWord zn_X1) ⟨by decide, by decide, by decide, by decide⟩ (Nat.le_of_ble_eq_true rfl) (fun v _ => AW.kRc (?_ : AW _ _ _ _ 13 _ _ _ _ _ _) v)
  refine AW.callVm (g := cf_Text_takeWord) (Sg := S_Text) (pl := [4, 5]) (av := [zR (some (zSB + 6))]) (b0 := 0) (ci := 6) (idx := 49) (n := 1) (st := []) (by decide +kernel) (fun l hl r hr => c_Text_takeWord l hl 6 _ r hr) sb_11 rfl cal_Text_takeWord rfl (zw4 zm_X1_49 zi_yX6_takeWord zs_yX6_takeWord zn_X6) rfl rfl ⟨by decide, by decide, by decide, by decide⟩ (Nat.le_of_ble_eq_true rfl) (Or.inl rfl) (fun v μ27 => AW.rI (fun x28 => (?_ : AW _ _ _ _ 16 _ _ _ _ _ _)) v)
  refine AW.if_eq (off := 37) (tgt := 53) (by decide +kernel) (by decide) (fun _ => ?_) (fun _ => ?_)
  · exact j_Fund_readTerms_53_6 μ27
  · refine AW.aload_n (i := 0) (a := 0) (by decide +kernel) rfl (?_ : AW _ _ _ _ 20 _ _ _ _ _ _)
    refine AW.getR (idx := 9) (ci := 1) (k := 0) (r := 0) (by decide +kernel) rfl rfl rfl (?_ : AW _ _ _ _ 23 _ _ _ _ _ _)
    refine AW.iload_n (i := 2) (a := 6) (by decide +kernel) rfl (?_ : AW _ _ _ _ 24 _ _ _ _ _ _)
    refine AW.iload_n (i := 2) (a := 6) (by decide +kernel) rfl (?_ : AW _ _ _ _ 25 _ _ _ _ _ _)
    refine AW.iconst (n := 3) (by decide +kernel) (?_ : AW _ _ _ _ 26 _ _ _ _ _ _)
    refine AW.neg (cnd := w32 6 = w32 3) (o1 := none) (by decide +kernel) (AW.icmp_ne (off := 7) (tgt := 33) (by decide +kernel) (by decide) (fun _ => AW.noth) (fun _ => ?_))
    refine AW.aload_n (i := 1) (a := 4) (by decide +kernel) rfl (?_ : AW _ _ _ _ 34 _ _ _ _ _ _)
    refine AW.iconst (n := 0) (by decide +kernel) (?_ : AW _ _ _ _ 35 _ _ _ _ _ _)
    refine AW.gtopsN (idx := 76) (by decide +kernel) zlnTT (?_ : AW _ _ _ _ 38 _ _ _ _ _ _)
    refine AW.iload_n (i := 2) (a := 6) (by decide +kernel) rfl (?_ : AW _ _ _ _ 39 _ _ _ _ _ _)
    refine AW.tops (by decide +kernel) (fun x29 => (?_ : AW _ _ _ _ 40 _ _ _ _ _ _))
    refine AW.callVm (g := cf_Text_takeNumber) (Sg := S_Text) (pl := [4, 5]) (av := [zI 0, zI x29]) (b0 := 0) (ci := 6) (idx := 79) (n := 2) (st := [zI 6, zR (some 1)]) (by decide +kernel) (fun l hl r hr => c_Text_takeNumber l hl 0 x29 _ r hr) sb_11 rfl cal_Text_takeNumber rfl (zw4 zm_X1_79 zi_yX6_takeNumber zs_yX6_takeNumber zn_X6) rfl rfl ⟨by decide, by decide, by decide, by decide⟩ (Nat.le_of_ble_eq_true rfl) (Or.inl rfl) (fun v μ30 => AW.rI (fun x31 => (?_ : AW _ _ _ _ 43 _ _ _ _ _ _)) v)
    exact j_Fund_readTerms_43 x31 6 μ30
def J_Fund_readTerms_53_5 (μ : ZMem) : Option ZRes := J_Fund_readTerms_2_6 μ
set_option maxRecDepth 100000 in
theorem j_Fund_readTerms_53_5 (μ : ZMem) : AW cf_Fund_readTerms S_Fund3.length S_Fund3 S_Fund3 53 [(0, zR (some 0)), (1, zR (some 4)), (2, zI 5)] [] μ 0 0 (J_Fund_readTerms_53_5 μ) := by
  unfold J_Fund_readTerms_53_5
  refine AW.iinc' (i := 2) (n := 1) (a := 5) (L' := [(2, zI 6), (0, zR (some 0)), (1, zR (some 4))]) (by decide +kernel) rfl (by decide) rfl (?_ : AW _ _ _ _ 56 _ _ _ _ _ _)
  refine AW.goto (off := -54) (tgt := 2) (by decide +kernel) (by decide) ?_
  refine AW.sub (L' := [(0, zR (some 0)), (1, zR (some 4)), (2, zI 6)]) [1, 2, 0] rfl ?_
  exact j_Fund_readTerms_2_6 μ
def J_Fund_readTerms_43_1 (y0 : Int) (y1 : Int) (μ : ZMem) : Option ZRes := zWr μ 1 7 y1 y0 (fun μ38 => zCm [4, 5] μ38 (F_Text_isRight  (zVw [4, 5] μ38)) (zkI (fun x40 μ39 => if w32 x40 = 0 then (some (.inr (some (zI 0)), μ39)) else (J_Fund_readTerms_53_5 μ39))) zX0)
set_option maxRecDepth 100000 in
theorem j_Fund_readTerms_43_1 (y0 : Int) (y1 : Int) (μ : ZMem) : AW cf_Fund_readTerms S_Fund3.length S_Fund3 S_Fund3 43 [(0, zR (some 0)), (1, zR (some 4)), (2, zI 5)] [zI y0, zI y1, zR (some 1)] μ 0 0 (J_Fund_readTerms_43_1 y0 y1 μ) := by
  unfold J_Fund_readTerms_43_1
  refine AW.iastL (r := 1) (by decide +kernel) rfl (fun μ38 => (?_ : AW _ _ _ _ 44 _ _ _ _ _ _))
  refine AW.aload_n (i := 1) (a := 4) (by decide +kernel) rfl (?_ : AW _ _ _ _ 45 _ _ _ _ _ _)
  refine AW.callVm (g := cf_Text_isRight) (Sg := S_Text) (pl := [4, 5]) (av := []) (b0 := 0) (ci := 6) (idx := 83) (n := 0) (st := []) (by decide +kernel) (fun l hl r hr => c_Text_isRight l hl  _ r hr) sb_11 rfl cal_Text_isRight rfl (zw4 zm_X1_83 zi_yX6_isRight zs_yX6_isRight zn_X6) rfl rfl ⟨by decide, by decide, by decide, by decide⟩ (Nat.le_of_ble_eq_true rfl) (Or.inl rfl) (fun v μ39 => AW.rI (fun x40 => (?_ : AW _ _ _ _ 48 _ _ _ _ _ _)) v)
  refine AW.if_ne (off := 5) (tgt := 53) (by decide +kernel) (by decide) (fun _ => ?_) (fun _ => ?_)
  · refine AW.iconst (n := 0) (by decide +kernel) (?_ : AW _ _ _ _ 52 _ _ _ _ _ _)
    exact AW.retb1 (by decide +kernel) rfl (by decide) (by decide) (by decide)
  · exact j_Fund_readTerms_53_5 μ39
def J_Fund_readTerms_2_5 (μ : ZMem) : Option ZRes := zC (F_Fund_termWord_5  μ) (zkRc 1000005 (fun _ => zCm [4, 5] μ (F_Text_takeWord 5 (zVw [4, 5] μ)) (zkI (fun x24 μ23 => if w32 x24 = 0 then (J_Fund_readTerms_53_5 μ23) else (zTop 5 (fun x35 => zCm [4, 5] μ23 (F_Text_takeNumber 0 x35 (zVw [4, 5] μ23)) (zkI (fun x37 μ36 => J_Fund_readTerms_43_1 x37 5 μ36)) zX0)))) zX0)) zX0
set_option maxRecDepth 100000 in
theorem j_Fund_readTerms_2_5 (μ : ZMem) : AW cf_Fund_readTerms S_Fund3.length S_Fund3 S_Fund3 2 [(0, zR (some 0)), (1, zR (some 4)), (2, zI 5)] [] μ 0 0 (J_Fund_readTerms_2_5 μ) := by
  unfold J_Fund_readTerms_2_5
  refine AW.iload_n (i := 2) (a := 5) (by decide +kernel) rfl (?_ : AW _ _ _ _ 3 _ _ _ _ _ _)
  refine AW.bipush (n := 7) (by decide +kernel) (by decide +kernel) (?_ : AW _ _ _ _ 5 _ _ _ _ _ _)
  refine AW.neg (cnd := w32 7 ≤ w32 5) (o1 := none) (by decide +kernel) (AW.icmp_ge (off := 54) (tgt := 59) (by decide +kernel) (by decide) (fun _ => AW.noth) (fun _ => ?_))
  refine AW.aload_n (i := 1) (a := 4) (by decide +kernel) rfl (?_ : AW _ _ _ _ 9 _ _ _ _ _ _)
  refine AW.iload_n (i := 2) (a := 5) (by decide +kernel) rfl (?_ : AW _ _ _ _ 10 _ _ _ _ _ _)
  refine AW.callP (g := cf_Fund_termWord_5) (av := [zI 5]) (idx := 72) (n := 1) (st := [zR (some 4)]) (by decide +kernel) (fun l hl r hr => c_Fund_termWord_5 l hl  _ r hr) rfl cal_Fund_termWord_5 rfl (zw3 zm_X1_72 zt_yX1_termWord zn_X1) ⟨by decide, by decide, by decide, by decide⟩ (Nat.le_of_ble_eq_true rfl) (fun v _ => AW.kRc (?_ : AW _ _ _ _ 13 _ _ _ _ _ _) v)
  refine AW.callVm (g := cf_Text_takeWord) (Sg := S_Text) (pl := [4, 5]) (av := [zR (some (zSB + 5))]) (b0 := 0) (ci := 6) (idx := 49) (n := 1) (st := []) (by decide +kernel) (fun l hl r hr => c_Text_takeWord l hl 5 _ r hr) sb_11 rfl cal_Text_takeWord rfl (zw4 zm_X1_49 zi_yX6_takeWord zs_yX6_takeWord zn_X6) rfl rfl ⟨by decide, by decide, by decide, by decide⟩ (Nat.le_of_ble_eq_true rfl) (Or.inl rfl) (fun v μ23 => AW.rI (fun x24 => (?_ : AW _ _ _ _ 16 _ _ _ _ _ _)) v)
  refine AW.if_eq (off := 37) (tgt := 53) (by decide +kernel) (by decide) (fun _ => ?_) (fun _ => ?_)
  · exact j_Fund_readTerms_53_5 μ23
  · refine AW.aload_n (i := 0) (a := 0) (by decide +kernel) rfl (?_ : AW _ _ _ _ 20 _ _ _ _ _ _)
    refine AW.getR (idx := 9) (ci := 1) (k := 0) (r := 0) (by decide +kernel) rfl rfl rfl (?_ : AW _ _ _ _ 23 _ _ _ _ _ _)
    refine AW.iload_n (i := 2) (a := 5) (by decide +kernel) rfl (?_ : AW _ _ _ _ 24 _ _ _ _ _ _)
    refine AW.iload_n (i := 2) (a := 5) (by decide +kernel) rfl (?_ : AW _ _ _ _ 25 _ _ _ _ _ _)
    refine AW.iconst (n := 3) (by decide +kernel) (?_ : AW _ _ _ _ 26 _ _ _ _ _ _)
    refine AW.neg (cnd := w32 5 = w32 3) (o1 := none) (by decide +kernel) (AW.icmp_ne (off := 7) (tgt := 33) (by decide +kernel) (by decide) (fun _ => AW.noth) (fun _ => ?_))
    refine AW.aload_n (i := 1) (a := 4) (by decide +kernel) rfl (?_ : AW _ _ _ _ 34 _ _ _ _ _ _)
    refine AW.iconst (n := 0) (by decide +kernel) (?_ : AW _ _ _ _ 35 _ _ _ _ _ _)
    refine AW.gtopsN (idx := 76) (by decide +kernel) zlnTT (?_ : AW _ _ _ _ 38 _ _ _ _ _ _)
    refine AW.iload_n (i := 2) (a := 5) (by decide +kernel) rfl (?_ : AW _ _ _ _ 39 _ _ _ _ _ _)
    refine AW.tops (by decide +kernel) (fun x35 => (?_ : AW _ _ _ _ 40 _ _ _ _ _ _))
    refine AW.callVm (g := cf_Text_takeNumber) (Sg := S_Text) (pl := [4, 5]) (av := [zI 0, zI x35]) (b0 := 0) (ci := 6) (idx := 79) (n := 2) (st := [zI 5, zR (some 1)]) (by decide +kernel) (fun l hl r hr => c_Text_takeNumber l hl 0 x35 _ r hr) sb_11 rfl cal_Text_takeNumber rfl (zw4 zm_X1_79 zi_yX6_takeNumber zs_yX6_takeNumber zn_X6) rfl rfl ⟨by decide, by decide, by decide, by decide⟩ (Nat.le_of_ble_eq_true rfl) (Or.inl rfl) (fun v μ36 => AW.rI (fun x37 => (?_ : AW _ _ _ _ 43 _ _ _ _ _ _)) v)
    exact j_Fund_readTerms_43_1 x37 5 μ36
def J_Fund_readTerms_53_4 (μ : ZMem) : Option ZRes := J_Fund_readTerms_2_5 μ
set_option maxRecDepth 100000 in
theorem j_Fund_readTerms_53_4 (μ : ZMem) : AW cf_Fund_readTerms S_Fund3.length S_Fund3 S_Fund3 53 [(0, zR (some 0)), (1, zR (some 4)), (2, zI 4)] [] μ 0 0 (J_Fund_readTerms_53_4 μ) := by
  unfold J_Fund_readTerms_53_4
  refine AW.iinc' (i := 2) (n := 1) (a := 4) (L' := [(2, zI 5), (0, zR (some 0)), (1, zR (some 4))]) (by decide +kernel) rfl (by decide) rfl (?_ : AW _ _ _ _ 56 _ _ _ _ _ _)
  refine AW.goto (off := -54) (tgt := 2) (by decide +kernel) (by decide) ?_
  refine AW.sub (L' := [(0, zR (some 0)), (1, zR (some 4)), (2, zI 5)]) [1, 2, 0] rfl ?_
  exact j_Fund_readTerms_2_5 μ
def J_Fund_readTerms_43_2 (y0 : Int) (y1 : Int) (μ : ZMem) : Option ZRes := zWr μ 1 7 y1 y0 (fun μ44 => zCm [4, 5] μ44 (F_Text_isRight  (zVw [4, 5] μ44)) (zkI (fun x46 μ45 => if w32 x46 = 0 then (some (.inr (some (zI 0)), μ45)) else (J_Fund_readTerms_53_4 μ45))) zX0)
set_option maxRecDepth 100000 in
theorem j_Fund_readTerms_43_2 (y0 : Int) (y1 : Int) (μ : ZMem) : AW cf_Fund_readTerms S_Fund3.length S_Fund3 S_Fund3 43 [(0, zR (some 0)), (1, zR (some 4)), (2, zI 4)] [zI y0, zI y1, zR (some 1)] μ 0 0 (J_Fund_readTerms_43_2 y0 y1 μ) := by
  unfold J_Fund_readTerms_43_2
  refine AW.iastL (r := 1) (by decide +kernel) rfl (fun μ44 => (?_ : AW _ _ _ _ 44 _ _ _ _ _ _))
  refine AW.aload_n (i := 1) (a := 4) (by decide +kernel) rfl (?_ : AW _ _ _ _ 45 _ _ _ _ _ _)
  refine AW.callVm (g := cf_Text_isRight) (Sg := S_Text) (pl := [4, 5]) (av := []) (b0 := 0) (ci := 6) (idx := 83) (n := 0) (st := []) (by decide +kernel) (fun l hl r hr => c_Text_isRight l hl  _ r hr) sb_11 rfl cal_Text_isRight rfl (zw4 zm_X1_83 zi_yX6_isRight zs_yX6_isRight zn_X6) rfl rfl ⟨by decide, by decide, by decide, by decide⟩ (Nat.le_of_ble_eq_true rfl) (Or.inl rfl) (fun v μ45 => AW.rI (fun x46 => (?_ : AW _ _ _ _ 48 _ _ _ _ _ _)) v)
  refine AW.if_ne (off := 5) (tgt := 53) (by decide +kernel) (by decide) (fun _ => ?_) (fun _ => ?_)
  · refine AW.iconst (n := 0) (by decide +kernel) (?_ : AW _ _ _ _ 52 _ _ _ _ _ _)
    exact AW.retb1 (by decide +kernel) rfl (by decide) (by decide) (by decide)
  · exact j_Fund_readTerms_53_4 μ45
def J_Fund_readTerms_2_4 (μ : ZMem) : Option ZRes := zC (F_Fund_termWord_4  μ) (zkRc 1000004 (fun _ => zCm [4, 5] μ (F_Text_takeWord 4 (zVw [4, 5] μ)) (zkI (fun x20 μ19 => if w32 x20 = 0 then (J_Fund_readTerms_53_4 μ19) else (zTop 4 (fun x41 => zCm [4, 5] μ19 (F_Text_takeNumber 0 x41 (zVw [4, 5] μ19)) (zkI (fun x43 μ42 => J_Fund_readTerms_43_2 x43 4 μ42)) zX0)))) zX0)) zX0
set_option maxRecDepth 100000 in
theorem j_Fund_readTerms_2_4 (μ : ZMem) : AW cf_Fund_readTerms S_Fund3.length S_Fund3 S_Fund3 2 [(0, zR (some 0)), (1, zR (some 4)), (2, zI 4)] [] μ 0 0 (J_Fund_readTerms_2_4 μ) := by
  unfold J_Fund_readTerms_2_4
  refine AW.iload_n (i := 2) (a := 4) (by decide +kernel) rfl (?_ : AW _ _ _ _ 3 _ _ _ _ _ _)
  refine AW.bipush (n := 7) (by decide +kernel) (by decide +kernel) (?_ : AW _ _ _ _ 5 _ _ _ _ _ _)
  refine AW.neg (cnd := w32 7 ≤ w32 4) (o1 := none) (by decide +kernel) (AW.icmp_ge (off := 54) (tgt := 59) (by decide +kernel) (by decide) (fun _ => AW.noth) (fun _ => ?_))
  refine AW.aload_n (i := 1) (a := 4) (by decide +kernel) rfl (?_ : AW _ _ _ _ 9 _ _ _ _ _ _)
  refine AW.iload_n (i := 2) (a := 4) (by decide +kernel) rfl (?_ : AW _ _ _ _ 10 _ _ _ _ _ _)
  refine AW.callP (g := cf_Fund_termWord_4) (av := [zI 4]) (idx := 72) (n := 1) (st := [zR (some 4)]) (by decide +kernel) (fun l hl r hr => c_Fund_termWord_4 l hl  _ r hr) rfl cal_Fund_termWord_4 rfl (zw3 zm_X1_72 zt_yX1_termWord zn_X1) ⟨by decide, by decide, by decide, by decide⟩ (Nat.le_of_ble_eq_true rfl) (fun v _ => AW.kRc (?_ : AW _ _ _ _ 13 _ _ _ _ _ _) v)
  refine AW.callVm (g := cf_Text_takeWord) (Sg := S_Text) (pl := [4, 5]) (av := [zR (some (zSB + 4))]) (b0 := 0) (ci := 6) (idx := 49) (n := 1) (st := []) (by decide +kernel) (fun l hl r hr => c_Text_takeWord l hl 4 _ r hr) sb_11 rfl cal_Text_takeWord rfl (zw4 zm_X1_49 zi_yX6_takeWord zs_yX6_takeWord zn_X6) rfl rfl ⟨by decide, by decide, by decide, by decide⟩ (Nat.le_of_ble_eq_true rfl) (Or.inl rfl) (fun v μ19 => AW.rI (fun x20 => (?_ : AW _ _ _ _ 16 _ _ _ _ _ _)) v)
  refine AW.if_eq (off := 37) (tgt := 53) (by decide +kernel) (by decide) (fun _ => ?_) (fun _ => ?_)
  · exact j_Fund_readTerms_53_4 μ19
  · refine AW.aload_n (i := 0) (a := 0) (by decide +kernel) rfl (?_ : AW _ _ _ _ 20 _ _ _ _ _ _)
    refine AW.getR (idx := 9) (ci := 1) (k := 0) (r := 0) (by decide +kernel) rfl rfl rfl (?_ : AW _ _ _ _ 23 _ _ _ _ _ _)
    refine AW.iload_n (i := 2) (a := 4) (by decide +kernel) rfl (?_ : AW _ _ _ _ 24 _ _ _ _ _ _)
    refine AW.iload_n (i := 2) (a := 4) (by decide +kernel) rfl (?_ : AW _ _ _ _ 25 _ _ _ _ _ _)
    refine AW.iconst (n := 3) (by decide +kernel) (?_ : AW _ _ _ _ 26 _ _ _ _ _ _)
    refine AW.neg (cnd := w32 4 = w32 3) (o1 := none) (by decide +kernel) (AW.icmp_ne (off := 7) (tgt := 33) (by decide +kernel) (by decide) (fun _ => AW.noth) (fun _ => ?_))
    refine AW.aload_n (i := 1) (a := 4) (by decide +kernel) rfl (?_ : AW _ _ _ _ 34 _ _ _ _ _ _)
    refine AW.iconst (n := 0) (by decide +kernel) (?_ : AW _ _ _ _ 35 _ _ _ _ _ _)
    refine AW.gtopsN (idx := 76) (by decide +kernel) zlnTT (?_ : AW _ _ _ _ 38 _ _ _ _ _ _)
    refine AW.iload_n (i := 2) (a := 4) (by decide +kernel) rfl (?_ : AW _ _ _ _ 39 _ _ _ _ _ _)
    refine AW.tops (by decide +kernel) (fun x41 => (?_ : AW _ _ _ _ 40 _ _ _ _ _ _))
    refine AW.callVm (g := cf_Text_takeNumber) (Sg := S_Text) (pl := [4, 5]) (av := [zI 0, zI x41]) (b0 := 0) (ci := 6) (idx := 79) (n := 2) (st := [zI 4, zR (some 1)]) (by decide +kernel) (fun l hl r hr => c_Text_takeNumber l hl 0 x41 _ r hr) sb_11 rfl cal_Text_takeNumber rfl (zw4 zm_X1_79 zi_yX6_takeNumber zs_yX6_takeNumber zn_X6) rfl rfl ⟨by decide, by decide, by decide, by decide⟩ (Nat.le_of_ble_eq_true rfl) (Or.inl rfl) (fun v μ42 => AW.rI (fun x43 => (?_ : AW _ _ _ _ 43 _ _ _ _ _ _)) v)
    exact j_Fund_readTerms_43_2 x43 4 μ42
def J_Fund_readTerms_53_3 (μ : ZMem) : Option ZRes := J_Fund_readTerms_2_4 μ
set_option maxRecDepth 100000 in
theorem j_Fund_readTerms_53_3 (μ : ZMem) : AW cf_Fund_readTerms S_Fund3.length S_Fund3 S_Fund3 53 [(0, zR (some 0)), (1, zR (some 4)), (2, zI 3)] [] μ 0 0 (J_Fund_readTerms_53_3 μ) := by
  unfold J_Fund_readTerms_53_3
  refine AW.iinc' (i := 2) (n := 1) (a := 3) (L' := [(2, zI 4), (0, zR (some 0)), (1, zR (some 4))]) (by decide +kernel) rfl (by decide) rfl (?_ : AW _ _ _ _ 56 _ _ _ _ _ _)
  refine AW.goto (off := -54) (tgt := 2) (by decide +kernel) (by decide) ?_
  refine AW.sub (L' := [(0, zR (some 0)), (1, zR (some 4)), (2, zI 4)]) [1, 2, 0] rfl ?_
  exact j_Fund_readTerms_2_4 μ
def J_Fund_readTerms_43_3 (y0 : Int) (y1 : Int) (μ : ZMem) : Option ZRes := zWr μ 1 7 y1 y0 (fun μ47 => zCm [4, 5] μ47 (F_Text_isRight  (zVw [4, 5] μ47)) (zkI (fun x49 μ48 => if w32 x49 = 0 then (some (.inr (some (zI 0)), μ48)) else (J_Fund_readTerms_53_3 μ48))) zX0)
set_option maxRecDepth 100000 in
theorem j_Fund_readTerms_43_3 (y0 : Int) (y1 : Int) (μ : ZMem) : AW cf_Fund_readTerms S_Fund3.length S_Fund3 S_Fund3 43 [(0, zR (some 0)), (1, zR (some 4)), (2, zI 3)] [zI y0, zI y1, zR (some 1)] μ 0 0 (J_Fund_readTerms_43_3 y0 y1 μ) := by
  unfold J_Fund_readTerms_43_3
  refine AW.iastL (r := 1) (by decide +kernel) rfl (fun μ47 => (?_ : AW _ _ _ _ 44 _ _ _ _ _ _))
  refine AW.aload_n (i := 1) (a := 4) (by decide +kernel) rfl (?_ : AW _ _ _ _ 45 _ _ _ _ _ _)
  refine AW.callVm (g := cf_Text_isRight) (Sg := S_Text) (pl := [4, 5]) (av := []) (b0 := 0) (ci := 6) (idx := 83) (n := 0) (st := []) (by decide +kernel) (fun l hl r hr => c_Text_isRight l hl  _ r hr) sb_11 rfl cal_Text_isRight rfl (zw4 zm_X1_83 zi_yX6_isRight zs_yX6_isRight zn_X6) rfl rfl ⟨by decide, by decide, by decide, by decide⟩ (Nat.le_of_ble_eq_true rfl) (Or.inl rfl) (fun v μ48 => AW.rI (fun x49 => (?_ : AW _ _ _ _ 48 _ _ _ _ _ _)) v)
  refine AW.if_ne (off := 5) (tgt := 53) (by decide +kernel) (by decide) (fun _ => ?_) (fun _ => ?_)
  · refine AW.iconst (n := 0) (by decide +kernel) (?_ : AW _ _ _ _ 52 _ _ _ _ _ _)
    exact AW.retb1 (by decide +kernel) rfl (by decide) (by decide) (by decide)
  · exact j_Fund_readTerms_53_3 μ48
def J_Fund_readTerms_2_3 (μ : ZMem) : Option ZRes := zC (F_Fund_termWord_3  μ) (zkRc 1000003 (fun _ => zCm [4, 5] μ (F_Text_takeWord 3 (zVw [4, 5] μ)) (zkI (fun x16 μ15 => if w32 x16 = 0 then (J_Fund_readTerms_53_3 μ15) else (J_Fund_readTerms_43_3 1 3 μ15))) zX0)) zX0
set_option maxRecDepth 100000 in
theorem j_Fund_readTerms_2_3 (μ : ZMem) : AW cf_Fund_readTerms S_Fund3.length S_Fund3 S_Fund3 2 [(0, zR (some 0)), (1, zR (some 4)), (2, zI 3)] [] μ 0 0 (J_Fund_readTerms_2_3 μ) := by
  unfold J_Fund_readTerms_2_3
  refine AW.iload_n (i := 2) (a := 3) (by decide +kernel) rfl (?_ : AW _ _ _ _ 3 _ _ _ _ _ _)
  refine AW.bipush (n := 7) (by decide +kernel) (by decide +kernel) (?_ : AW _ _ _ _ 5 _ _ _ _ _ _)
  refine AW.neg (cnd := w32 7 ≤ w32 3) (o1 := none) (by decide +kernel) (AW.icmp_ge (off := 54) (tgt := 59) (by decide +kernel) (by decide) (fun _ => AW.noth) (fun _ => ?_))
  refine AW.aload_n (i := 1) (a := 4) (by decide +kernel) rfl (?_ : AW _ _ _ _ 9 _ _ _ _ _ _)
  refine AW.iload_n (i := 2) (a := 3) (by decide +kernel) rfl (?_ : AW _ _ _ _ 10 _ _ _ _ _ _)
  refine AW.callP (g := cf_Fund_termWord_3) (av := [zI 3]) (idx := 72) (n := 1) (st := [zR (some 4)]) (by decide +kernel) (fun l hl r hr => c_Fund_termWord_3 l hl  _ r hr) rfl cal_Fund_termWord_3 rfl (zw3 zm_X1_72 zt_yX1_termWord zn_X1) ⟨by decide, by decide, by decide, by decide⟩ (Nat.le_of_ble_eq_true rfl) (fun v _ => AW.kRc (?_ : AW _ _ _ _ 13 _ _ _ _ _ _) v)
  refine AW.callVm (g := cf_Text_takeWord) (Sg := S_Text) (pl := [4, 5]) (av := [zR (some (zSB + 3))]) (b0 := 0) (ci := 6) (idx := 49) (n := 1) (st := []) (by decide +kernel) (fun l hl r hr => c_Text_takeWord l hl 3 _ r hr) sb_11 rfl cal_Text_takeWord rfl (zw4 zm_X1_49 zi_yX6_takeWord zs_yX6_takeWord zn_X6) rfl rfl ⟨by decide, by decide, by decide, by decide⟩ (Nat.le_of_ble_eq_true rfl) (Or.inl rfl) (fun v μ15 => AW.rI (fun x16 => (?_ : AW _ _ _ _ 16 _ _ _ _ _ _)) v)
  refine AW.if_eq (off := 37) (tgt := 53) (by decide +kernel) (by decide) (fun _ => ?_) (fun _ => ?_)
  · exact j_Fund_readTerms_53_3 μ15
  · refine AW.aload_n (i := 0) (a := 0) (by decide +kernel) rfl (?_ : AW _ _ _ _ 20 _ _ _ _ _ _)
    refine AW.getR (idx := 9) (ci := 1) (k := 0) (r := 0) (by decide +kernel) rfl rfl rfl (?_ : AW _ _ _ _ 23 _ _ _ _ _ _)
    refine AW.iload_n (i := 2) (a := 3) (by decide +kernel) rfl (?_ : AW _ _ _ _ 24 _ _ _ _ _ _)
    refine AW.iload_n (i := 2) (a := 3) (by decide +kernel) rfl (?_ : AW _ _ _ _ 25 _ _ _ _ _ _)
    refine AW.iconst (n := 3) (by decide +kernel) (?_ : AW _ _ _ _ 26 _ _ _ _ _ _)
    refine AW.pos (cnd := w32 3 = w32 3) (o2 := none) (by decide +kernel) (AW.icmp_ne (off := 7) (tgt := 33) (by decide +kernel) (by decide) (fun _ => ?_) (fun _ => AW.noth))
    refine AW.iconst (n := 1) (by decide +kernel) (?_ : AW _ _ _ _ 30 _ _ _ _ _ _)
    refine AW.goto (off := 13) (tgt := 43) (by decide +kernel) (by decide) ?_
    exact j_Fund_readTerms_43_3 1 3 μ15
def J_Fund_readTerms_53_2 (μ : ZMem) : Option ZRes := J_Fund_readTerms_2_3 μ
set_option maxRecDepth 100000 in
theorem j_Fund_readTerms_53_2 (μ : ZMem) : AW cf_Fund_readTerms S_Fund3.length S_Fund3 S_Fund3 53 [(0, zR (some 0)), (1, zR (some 4)), (2, zI 2)] [] μ 0 0 (J_Fund_readTerms_53_2 μ) := by
  unfold J_Fund_readTerms_53_2
  refine AW.iinc' (i := 2) (n := 1) (a := 2) (L' := [(2, zI 3), (0, zR (some 0)), (1, zR (some 4))]) (by decide +kernel) rfl (by decide) rfl (?_ : AW _ _ _ _ 56 _ _ _ _ _ _)
  refine AW.goto (off := -54) (tgt := 2) (by decide +kernel) (by decide) ?_
  refine AW.sub (L' := [(0, zR (some 0)), (1, zR (some 4)), (2, zI 3)]) [1, 2, 0] rfl ?_
  exact j_Fund_readTerms_2_3 μ
def J_Fund_readTerms_43_4 (y0 : Int) (y1 : Int) (μ : ZMem) : Option ZRes := zWr μ 1 7 y1 y0 (fun μ53 => zCm [4, 5] μ53 (F_Text_isRight  (zVw [4, 5] μ53)) (zkI (fun x55 μ54 => if w32 x55 = 0 then (some (.inr (some (zI 0)), μ54)) else (J_Fund_readTerms_53_2 μ54))) zX0)
set_option maxRecDepth 100000 in
theorem j_Fund_readTerms_43_4 (y0 : Int) (y1 : Int) (μ : ZMem) : AW cf_Fund_readTerms S_Fund3.length S_Fund3 S_Fund3 43 [(0, zR (some 0)), (1, zR (some 4)), (2, zI 2)] [zI y0, zI y1, zR (some 1)] μ 0 0 (J_Fund_readTerms_43_4 y0 y1 μ) := by
  unfold J_Fund_readTerms_43_4
  refine AW.iastL (r := 1) (by decide +kernel) rfl (fun μ53 => (?_ : AW _ _ _ _ 44 _ _ _ _ _ _))
  refine AW.aload_n (i := 1) (a := 4) (by decide +kernel) rfl (?_ : AW _ _ _ _ 45 _ _ _ _ _ _)
  refine AW.callVm (g := cf_Text_isRight) (Sg := S_Text) (pl := [4, 5]) (av := []) (b0 := 0) (ci := 6) (idx := 83) (n := 0) (st := []) (by decide +kernel) (fun l hl r hr => c_Text_isRight l hl  _ r hr) sb_11 rfl cal_Text_isRight rfl (zw4 zm_X1_83 zi_yX6_isRight zs_yX6_isRight zn_X6) rfl rfl ⟨by decide, by decide, by decide, by decide⟩ (Nat.le_of_ble_eq_true rfl) (Or.inl rfl) (fun v μ54 => AW.rI (fun x55 => (?_ : AW _ _ _ _ 48 _ _ _ _ _ _)) v)
  refine AW.if_ne (off := 5) (tgt := 53) (by decide +kernel) (by decide) (fun _ => ?_) (fun _ => ?_)
  · refine AW.iconst (n := 0) (by decide +kernel) (?_ : AW _ _ _ _ 52 _ _ _ _ _ _)
    exact AW.retb1 (by decide +kernel) rfl (by decide) (by decide) (by decide)
  · exact j_Fund_readTerms_53_2 μ54
def J_Fund_readTerms_2_2 (μ : ZMem) : Option ZRes := zC (F_Fund_termWord_2  μ) (zkRc 1000002 (fun _ => zCm [4, 5] μ (F_Text_takeWord 2 (zVw [4, 5] μ)) (zkI (fun x12 μ11 => if w32 x12 = 0 then (J_Fund_readTerms_53_2 μ11) else (zTop 2 (fun x50 => zCm [4, 5] μ11 (F_Text_takeNumber 0 x50 (zVw [4, 5] μ11)) (zkI (fun x52 μ51 => J_Fund_readTerms_43_4 x52 2 μ51)) zX0)))) zX0)) zX0
set_option maxRecDepth 100000 in
theorem j_Fund_readTerms_2_2 (μ : ZMem) : AW cf_Fund_readTerms S_Fund3.length S_Fund3 S_Fund3 2 [(0, zR (some 0)), (1, zR (some 4)), (2, zI 2)] [] μ 0 0 (J_Fund_readTerms_2_2 μ) := by
  unfold J_Fund_readTerms_2_2
  refine AW.iload_n (i := 2) (a := 2) (by decide +kernel) rfl (?_ : AW _ _ _ _ 3 _ _ _ _ _ _)
  refine AW.bipush (n := 7) (by decide +kernel) (by decide +kernel) (?_ : AW _ _ _ _ 5 _ _ _ _ _ _)
  refine AW.neg (cnd := w32 7 ≤ w32 2) (o1 := none) (by decide +kernel) (AW.icmp_ge (off := 54) (tgt := 59) (by decide +kernel) (by decide) (fun _ => AW.noth) (fun _ => ?_))
  refine AW.aload_n (i := 1) (a := 4) (by decide +kernel) rfl (?_ : AW _ _ _ _ 9 _ _ _ _ _ _)
  refine AW.iload_n (i := 2) (a := 2) (by decide +kernel) rfl (?_ : AW _ _ _ _ 10 _ _ _ _ _ _)
  refine AW.callP (g := cf_Fund_termWord_2) (av := [zI 2]) (idx := 72) (n := 1) (st := [zR (some 4)]) (by decide +kernel) (fun l hl r hr => c_Fund_termWord_2 l hl  _ r hr) rfl cal_Fund_termWord_2 rfl (zw3 zm_X1_72 zt_yX1_termWord zn_X1) ⟨by decide, by decide, by decide, by decide⟩ (Nat.le_of_ble_eq_true rfl) (fun v _ => AW.kRc (?_ : AW _ _ _ _ 13 _ _ _ _ _ _) v)
  refine AW.callVm (g := cf_Text_takeWord) (Sg := S_Text) (pl := [4, 5]) (av := [zR (some (zSB + 2))]) (b0 := 0) (ci := 6) (idx := 49) (n := 1) (st := []) (by decide +kernel) (fun l hl r hr => c_Text_takeWord l hl 2 _ r hr) sb_11 rfl cal_Text_takeWord rfl (zw4 zm_X1_49 zi_yX6_takeWord zs_yX6_takeWord zn_X6) rfl rfl ⟨by decide, by decide, by decide, by decide⟩ (Nat.le_of_ble_eq_true rfl) (Or.inl rfl) (fun v μ11 => AW.rI (fun x12 => (?_ : AW _ _ _ _ 16 _ _ _ _ _ _)) v)
  refine AW.if_eq (off := 37) (tgt := 53) (by decide +kernel) (by decide) (fun _ => ?_) (fun _ => ?_)
  · exact j_Fund_readTerms_53_2 μ11
  · refine AW.aload_n (i := 0) (a := 0) (by decide +kernel) rfl (?_ : AW _ _ _ _ 20 _ _ _ _ _ _)
    refine AW.getR (idx := 9) (ci := 1) (k := 0) (r := 0) (by decide +kernel) rfl rfl rfl (?_ : AW _ _ _ _ 23 _ _ _ _ _ _)
    refine AW.iload_n (i := 2) (a := 2) (by decide +kernel) rfl (?_ : AW _ _ _ _ 24 _ _ _ _ _ _)
    refine AW.iload_n (i := 2) (a := 2) (by decide +kernel) rfl (?_ : AW _ _ _ _ 25 _ _ _ _ _ _)
    refine AW.iconst (n := 3) (by decide +kernel) (?_ : AW _ _ _ _ 26 _ _ _ _ _ _)
    refine AW.neg (cnd := w32 2 = w32 3) (o1 := none) (by decide +kernel) (AW.icmp_ne (off := 7) (tgt := 33) (by decide +kernel) (by decide) (fun _ => AW.noth) (fun _ => ?_))
    refine AW.aload_n (i := 1) (a := 4) (by decide +kernel) rfl (?_ : AW _ _ _ _ 34 _ _ _ _ _ _)
    refine AW.iconst (n := 0) (by decide +kernel) (?_ : AW _ _ _ _ 35 _ _ _ _ _ _)
    refine AW.gtopsN (idx := 76) (by decide +kernel) zlnTT (?_ : AW _ _ _ _ 38 _ _ _ _ _ _)
    refine AW.iload_n (i := 2) (a := 2) (by decide +kernel) rfl (?_ : AW _ _ _ _ 39 _ _ _ _ _ _)
    refine AW.tops (by decide +kernel) (fun x50 => (?_ : AW _ _ _ _ 40 _ _ _ _ _ _))
    refine AW.callVm (g := cf_Text_takeNumber) (Sg := S_Text) (pl := [4, 5]) (av := [zI 0, zI x50]) (b0 := 0) (ci := 6) (idx := 79) (n := 2) (st := [zI 2, zR (some 1)]) (by decide +kernel) (fun l hl r hr => c_Text_takeNumber l hl 0 x50 _ r hr) sb_11 rfl cal_Text_takeNumber rfl (zw4 zm_X1_79 zi_yX6_takeNumber zs_yX6_takeNumber zn_X6) rfl rfl ⟨by decide, by decide, by decide, by decide⟩ (Nat.le_of_ble_eq_true rfl) (Or.inl rfl) (fun v μ51 => AW.rI (fun x52 => (?_ : AW _ _ _ _ 43 _ _ _ _ _ _)) v)
    exact j_Fund_readTerms_43_4 x52 2 μ51
def J_Fund_readTerms_53_1 (μ : ZMem) : Option ZRes := J_Fund_readTerms_2_2 μ
set_option maxRecDepth 100000 in
theorem j_Fund_readTerms_53_1 (μ : ZMem) : AW cf_Fund_readTerms S_Fund3.length S_Fund3 S_Fund3 53 [(0, zR (some 0)), (1, zR (some 4)), (2, zI 1)] [] μ 0 0 (J_Fund_readTerms_53_1 μ) := by
  unfold J_Fund_readTerms_53_1
  refine AW.iinc' (i := 2) (n := 1) (a := 1) (L' := [(2, zI 2), (0, zR (some 0)), (1, zR (some 4))]) (by decide +kernel) rfl (by decide) rfl (?_ : AW _ _ _ _ 56 _ _ _ _ _ _)
  refine AW.goto (off := -54) (tgt := 2) (by decide +kernel) (by decide) ?_
  refine AW.sub (L' := [(0, zR (some 0)), (1, zR (some 4)), (2, zI 2)]) [1, 2, 0] rfl ?_
  exact j_Fund_readTerms_2_2 μ
def J_Fund_readTerms_43_5 (y0 : Int) (y1 : Int) (μ : ZMem) : Option ZRes := zWr μ 1 7 y1 y0 (fun μ59 => zCm [4, 5] μ59 (F_Text_isRight  (zVw [4, 5] μ59)) (zkI (fun x61 μ60 => if w32 x61 = 0 then (some (.inr (some (zI 0)), μ60)) else (J_Fund_readTerms_53_1 μ60))) zX0)
set_option maxRecDepth 100000 in
theorem j_Fund_readTerms_43_5 (y0 : Int) (y1 : Int) (μ : ZMem) : AW cf_Fund_readTerms S_Fund3.length S_Fund3 S_Fund3 43 [(0, zR (some 0)), (1, zR (some 4)), (2, zI 1)] [zI y0, zI y1, zR (some 1)] μ 0 0 (J_Fund_readTerms_43_5 y0 y1 μ) := by
  unfold J_Fund_readTerms_43_5
  refine AW.iastL (r := 1) (by decide +kernel) rfl (fun μ59 => (?_ : AW _ _ _ _ 44 _ _ _ _ _ _))
  refine AW.aload_n (i := 1) (a := 4) (by decide +kernel) rfl (?_ : AW _ _ _ _ 45 _ _ _ _ _ _)
  refine AW.callVm (g := cf_Text_isRight) (Sg := S_Text) (pl := [4, 5]) (av := []) (b0 := 0) (ci := 6) (idx := 83) (n := 0) (st := []) (by decide +kernel) (fun l hl r hr => c_Text_isRight l hl  _ r hr) sb_11 rfl cal_Text_isRight rfl (zw4 zm_X1_83 zi_yX6_isRight zs_yX6_isRight zn_X6) rfl rfl ⟨by decide, by decide, by decide, by decide⟩ (Nat.le_of_ble_eq_true rfl) (Or.inl rfl) (fun v μ60 => AW.rI (fun x61 => (?_ : AW _ _ _ _ 48 _ _ _ _ _ _)) v)
  refine AW.if_ne (off := 5) (tgt := 53) (by decide +kernel) (by decide) (fun _ => ?_) (fun _ => ?_)
  · refine AW.iconst (n := 0) (by decide +kernel) (?_ : AW _ _ _ _ 52 _ _ _ _ _ _)
    exact AW.retb1 (by decide +kernel) rfl (by decide) (by decide) (by decide)
  · exact j_Fund_readTerms_53_1 μ60
def J_Fund_readTerms_2_1 (μ : ZMem) : Option ZRes := zC (F_Fund_termWord_1  μ) (zkRc 1000001 (fun _ => zCm [4, 5] μ (F_Text_takeWord 1 (zVw [4, 5] μ)) (zkI (fun x8 μ7 => if w32 x8 = 0 then (J_Fund_readTerms_53_1 μ7) else (zTop 1 (fun x56 => zCm [4, 5] μ7 (F_Text_takeNumber 0 x56 (zVw [4, 5] μ7)) (zkI (fun x58 μ57 => J_Fund_readTerms_43_5 x58 1 μ57)) zX0)))) zX0)) zX0
set_option maxRecDepth 100000 in
theorem j_Fund_readTerms_2_1 (μ : ZMem) : AW cf_Fund_readTerms S_Fund3.length S_Fund3 S_Fund3 2 [(0, zR (some 0)), (1, zR (some 4)), (2, zI 1)] [] μ 0 0 (J_Fund_readTerms_2_1 μ) := by
  unfold J_Fund_readTerms_2_1
  refine AW.iload_n (i := 2) (a := 1) (by decide +kernel) rfl (?_ : AW _ _ _ _ 3 _ _ _ _ _ _)
  refine AW.bipush (n := 7) (by decide +kernel) (by decide +kernel) (?_ : AW _ _ _ _ 5 _ _ _ _ _ _)
  refine AW.neg (cnd := w32 7 ≤ w32 1) (o1 := none) (by decide +kernel) (AW.icmp_ge (off := 54) (tgt := 59) (by decide +kernel) (by decide) (fun _ => AW.noth) (fun _ => ?_))
  refine AW.aload_n (i := 1) (a := 4) (by decide +kernel) rfl (?_ : AW _ _ _ _ 9 _ _ _ _ _ _)
  refine AW.iload_n (i := 2) (a := 1) (by decide +kernel) rfl (?_ : AW _ _ _ _ 10 _ _ _ _ _ _)
  refine AW.callP (g := cf_Fund_termWord_1) (av := [zI 1]) (idx := 72) (n := 1) (st := [zR (some 4)]) (by decide +kernel) (fun l hl r hr => c_Fund_termWord_1 l hl  _ r hr) rfl cal_Fund_termWord_1 rfl (zw3 zm_X1_72 zt_yX1_termWord zn_X1) ⟨by decide, by decide, by decide, by decide⟩ (Nat.le_of_ble_eq_true rfl) (fun v _ => AW.kRc (?_ : AW _ _ _ _ 13 _ _ _ _ _ _) v)
  refine AW.callVm (g := cf_Text_takeWord) (Sg := S_Text) (pl := [4, 5]) (av := [zR (some (zSB + 1))]) (b0 := 0) (ci := 6) (idx := 49) (n := 1) (st := []) (by decide +kernel) (fun l hl r hr => c_Text_takeWord l hl 1 _ r hr) sb_11 rfl cal_Text_takeWord rfl (zw4 zm_X1_49 zi_yX6_takeWord zs_yX6_takeWord zn_X6) rfl rfl ⟨by decide, by decide, by decide, by decide⟩ (Nat.le_of_ble_eq_true rfl) (Or.inl rfl) (fun v μ7 => AW.rI (fun x8 => (?_ : AW _ _ _ _ 16 _ _ _ _ _ _)) v)
  refine AW.if_eq (off := 37) (tgt := 53) (by decide +kernel) (by decide) (fun _ => ?_) (fun _ => ?_)
  · exact j_Fund_readTerms_53_1 μ7
  · refine AW.aload_n (i := 0) (a := 0) (by decide +kernel) rfl (?_ : AW _ _ _ _ 20 _ _ _ _ _ _)
    refine AW.getR (idx := 9) (ci := 1) (k := 0) (r := 0) (by decide +kernel) rfl rfl rfl (?_ : AW _ _ _ _ 23 _ _ _ _ _ _)
    refine AW.iload_n (i := 2) (a := 1) (by decide +kernel) rfl (?_ : AW _ _ _ _ 24 _ _ _ _ _ _)
    refine AW.iload_n (i := 2) (a := 1) (by decide +kernel) rfl (?_ : AW _ _ _ _ 25 _ _ _ _ _ _)
    refine AW.iconst (n := 3) (by decide +kernel) (?_ : AW _ _ _ _ 26 _ _ _ _ _ _)
    refine AW.neg (cnd := w32 1 = w32 3) (o1 := none) (by decide +kernel) (AW.icmp_ne (off := 7) (tgt := 33) (by decide +kernel) (by decide) (fun _ => AW.noth) (fun _ => ?_))
    refine AW.aload_n (i := 1) (a := 4) (by decide +kernel) rfl (?_ : AW _ _ _ _ 34 _ _ _ _ _ _)
    refine AW.iconst (n := 0) (by decide +kernel) (?_ : AW _ _ _ _ 35 _ _ _ _ _ _)
    refine AW.gtopsN (idx := 76) (by decide +kernel) zlnTT (?_ : AW _ _ _ _ 38 _ _ _ _ _ _)
    refine AW.iload_n (i := 2) (a := 1) (by decide +kernel) rfl (?_ : AW _ _ _ _ 39 _ _ _ _ _ _)
    refine AW.tops (by decide +kernel) (fun x56 => (?_ : AW _ _ _ _ 40 _ _ _ _ _ _))
    refine AW.callVm (g := cf_Text_takeNumber) (Sg := S_Text) (pl := [4, 5]) (av := [zI 0, zI x56]) (b0 := 0) (ci := 6) (idx := 79) (n := 2) (st := [zI 1, zR (some 1)]) (by decide +kernel) (fun l hl r hr => c_Text_takeNumber l hl 0 x56 _ r hr) sb_11 rfl cal_Text_takeNumber rfl (zw4 zm_X1_79 zi_yX6_takeNumber zs_yX6_takeNumber zn_X6) rfl rfl ⟨by decide, by decide, by decide, by decide⟩ (Nat.le_of_ble_eq_true rfl) (Or.inl rfl) (fun v μ57 => AW.rI (fun x58 => (?_ : AW _ _ _ _ 43 _ _ _ _ _ _)) v)
    exact j_Fund_readTerms_43_5 x58 1 μ57
def J_Fund_readTerms_53 (μ : ZMem) : Option ZRes := J_Fund_readTerms_2_1 μ
set_option maxRecDepth 100000 in
theorem j_Fund_readTerms_53 (μ : ZMem) : AW cf_Fund_readTerms S_Fund3.length S_Fund3 S_Fund3 53 [(0, zR (some 0)), (1, zR (some 4)), (2, zI 0)] [] μ 0 0 (J_Fund_readTerms_53 μ) := by
  unfold J_Fund_readTerms_53
  refine AW.iinc' (i := 2) (n := 1) (a := 0) (L' := [(2, zI 1), (0, zR (some 0)), (1, zR (some 4))]) (by decide +kernel) rfl (by decide) rfl (?_ : AW _ _ _ _ 56 _ _ _ _ _ _)
  refine AW.goto (off := -54) (tgt := 2) (by decide +kernel) (by decide) ?_
  refine AW.sub (L' := [(0, zR (some 0)), (1, zR (some 4)), (2, zI 1)]) [1, 2, 0] rfl ?_
  exact j_Fund_readTerms_2_1 μ
def J_Fund_readTerms_43_6 (y0 : Int) (y1 : Int) (μ : ZMem) : Option ZRes := zWr μ 1 7 y1 y0 (fun μ65 => zCm [4, 5] μ65 (F_Text_isRight  (zVw [4, 5] μ65)) (zkI (fun x67 μ66 => if w32 x67 = 0 then (some (.inr (some (zI 0)), μ66)) else (J_Fund_readTerms_53 μ66))) zX0)
set_option maxRecDepth 100000 in
theorem j_Fund_readTerms_43_6 (y0 : Int) (y1 : Int) (μ : ZMem) : AW cf_Fund_readTerms S_Fund3.length S_Fund3 S_Fund3 43 [(0, zR (some 0)), (1, zR (some 4)), (2, zI 0)] [zI y0, zI y1, zR (some 1)] μ 0 0 (J_Fund_readTerms_43_6 y0 y1 μ) := by
  unfold J_Fund_readTerms_43_6
  refine AW.iastL (r := 1) (by decide +kernel) rfl (fun μ65 => (?_ : AW _ _ _ _ 44 _ _ _ _ _ _))
  refine AW.aload_n (i := 1) (a := 4) (by decide +kernel) rfl (?_ : AW _ _ _ _ 45 _ _ _ _ _ _)
  refine AW.callVm (g := cf_Text_isRight) (Sg := S_Text) (pl := [4, 5]) (av := []) (b0 := 0) (ci := 6) (idx := 83) (n := 0) (st := []) (by decide +kernel) (fun l hl r hr => c_Text_isRight l hl  _ r hr) sb_11 rfl cal_Text_isRight rfl (zw4 zm_X1_83 zi_yX6_isRight zs_yX6_isRight zn_X6) rfl rfl ⟨by decide, by decide, by decide, by decide⟩ (Nat.le_of_ble_eq_true rfl) (Or.inl rfl) (fun v μ66 => AW.rI (fun x67 => (?_ : AW _ _ _ _ 48 _ _ _ _ _ _)) v)
  refine AW.if_ne (off := 5) (tgt := 53) (by decide +kernel) (by decide) (fun _ => ?_) (fun _ => ?_)
  · refine AW.iconst (n := 0) (by decide +kernel) (?_ : AW _ _ _ _ 52 _ _ _ _ _ _)
    exact AW.retb1 (by decide +kernel) rfl (by decide) (by decide) (by decide)
  · exact j_Fund_readTerms_53 μ66
def J_Fund_readTerms_2 (μ : ZMem) : Option ZRes := zC (F_Fund_termWord_0  μ) (zkRc 1000000 (fun _ => zCm [4, 5] μ (F_Text_takeWord 0 (zVw [4, 5] μ)) (zkI (fun x4 μ3 => if w32 x4 = 0 then (J_Fund_readTerms_53 μ3) else (zTop 0 (fun x62 => zCm [4, 5] μ3 (F_Text_takeNumber 0 x62 (zVw [4, 5] μ3)) (zkI (fun x64 μ63 => J_Fund_readTerms_43_6 x64 0 μ63)) zX0)))) zX0)) zX0
set_option maxRecDepth 100000 in
theorem j_Fund_readTerms_2 (μ : ZMem) : AW cf_Fund_readTerms S_Fund3.length S_Fund3 S_Fund3 2 [(0, zR (some 0)), (1, zR (some 4)), (2, zI 0)] [] μ 0 0 (J_Fund_readTerms_2 μ) := by
  unfold J_Fund_readTerms_2
  refine AW.iload_n (i := 2) (a := 0) (by decide +kernel) rfl (?_ : AW _ _ _ _ 3 _ _ _ _ _ _)
  refine AW.bipush (n := 7) (by decide +kernel) (by decide +kernel) (?_ : AW _ _ _ _ 5 _ _ _ _ _ _)
  refine AW.neg (cnd := w32 7 ≤ w32 0) (o1 := none) (by decide +kernel) (AW.icmp_ge (off := 54) (tgt := 59) (by decide +kernel) (by decide) (fun _ => AW.noth) (fun _ => ?_))
  refine AW.aload_n (i := 1) (a := 4) (by decide +kernel) rfl (?_ : AW _ _ _ _ 9 _ _ _ _ _ _)
  refine AW.iload_n (i := 2) (a := 0) (by decide +kernel) rfl (?_ : AW _ _ _ _ 10 _ _ _ _ _ _)
  refine AW.callP (g := cf_Fund_termWord_0) (av := [zI 0]) (idx := 72) (n := 1) (st := [zR (some 4)]) (by decide +kernel) (fun l hl r hr => c_Fund_termWord_0 l hl  _ r hr) rfl cal_Fund_termWord_0 rfl (zw3 zm_X1_72 zt_yX1_termWord zn_X1) ⟨by decide, by decide, by decide, by decide⟩ (Nat.le_of_ble_eq_true rfl) (fun v _ => AW.kRc (?_ : AW _ _ _ _ 13 _ _ _ _ _ _) v)
  refine AW.callVm (g := cf_Text_takeWord) (Sg := S_Text) (pl := [4, 5]) (av := [zR (some (zSB + 0))]) (b0 := 0) (ci := 6) (idx := 49) (n := 1) (st := []) (by decide +kernel) (fun l hl r hr => c_Text_takeWord l hl 0 _ r hr) sb_11 rfl cal_Text_takeWord rfl (zw4 zm_X1_49 zi_yX6_takeWord zs_yX6_takeWord zn_X6) rfl rfl ⟨by decide, by decide, by decide, by decide⟩ (Nat.le_of_ble_eq_true rfl) (Or.inl rfl) (fun v μ3 => AW.rI (fun x4 => (?_ : AW _ _ _ _ 16 _ _ _ _ _ _)) v)
  refine AW.if_eq (off := 37) (tgt := 53) (by decide +kernel) (by decide) (fun _ => ?_) (fun _ => ?_)
  · exact j_Fund_readTerms_53 μ3
  · refine AW.aload_n (i := 0) (a := 0) (by decide +kernel) rfl (?_ : AW _ _ _ _ 20 _ _ _ _ _ _)
    refine AW.getR (idx := 9) (ci := 1) (k := 0) (r := 0) (by decide +kernel) rfl rfl rfl (?_ : AW _ _ _ _ 23 _ _ _ _ _ _)
    refine AW.iload_n (i := 2) (a := 0) (by decide +kernel) rfl (?_ : AW _ _ _ _ 24 _ _ _ _ _ _)
    refine AW.iload_n (i := 2) (a := 0) (by decide +kernel) rfl (?_ : AW _ _ _ _ 25 _ _ _ _ _ _)
    refine AW.iconst (n := 3) (by decide +kernel) (?_ : AW _ _ _ _ 26 _ _ _ _ _ _)
    refine AW.neg (cnd := w32 0 = w32 3) (o1 := none) (by decide +kernel) (AW.icmp_ne (off := 7) (tgt := 33) (by decide +kernel) (by decide) (fun _ => AW.noth) (fun _ => ?_))
    refine AW.aload_n (i := 1) (a := 4) (by decide +kernel) rfl (?_ : AW _ _ _ _ 34 _ _ _ _ _ _)
    refine AW.iconst (n := 0) (by decide +kernel) (?_ : AW _ _ _ _ 35 _ _ _ _ _ _)
    refine AW.gtopsN (idx := 76) (by decide +kernel) zlnTT (?_ : AW _ _ _ _ 38 _ _ _ _ _ _)
    refine AW.iload_n (i := 2) (a := 0) (by decide +kernel) rfl (?_ : AW _ _ _ _ 39 _ _ _ _ _ _)
    refine AW.tops (by decide +kernel) (fun x62 => (?_ : AW _ _ _ _ 40 _ _ _ _ _ _))
    refine AW.callVm (g := cf_Text_takeNumber) (Sg := S_Text) (pl := [4, 5]) (av := [zI 0, zI x62]) (b0 := 0) (ci := 6) (idx := 79) (n := 2) (st := [zI 0, zR (some 1)]) (by decide +kernel) (fun l hl r hr => c_Text_takeNumber l hl 0 x62 _ r hr) sb_11 rfl cal_Text_takeNumber rfl (zw4 zm_X1_79 zi_yX6_takeNumber zs_yX6_takeNumber zn_X6) rfl rfl ⟨by decide, by decide, by decide, by decide⟩ (Nat.le_of_ble_eq_true rfl) (Or.inl rfl) (fun v μ63 => AW.rI (fun x64 => (?_ : AW _ _ _ _ 43 _ _ _ _ _ _)) v)
    exact j_Fund_readTerms_43_6 x64 0 μ63
def F_Fund_readTerms (μ : ZMem) : Option ZRes := J_Fund_readTerms_2 μ
set_option maxRecDepth 100000 in
theorem w_Fund_readTerms (μ : ZMem) : AW cf_Fund_readTerms S_Fund3.length S_Fund3 S_Fund3 0 [(0, zR (some 0)), (1, zR (some 4))] [] μ 0 0 (F_Fund_readTerms μ) := by
  unfold F_Fund_readTerms
  refine AW.iconst (n := 0) (by decide +kernel) (?_ : AW _ _ _ _ 1 _ _ _ _ _ _)
  refine AW.istore_n' (i := 2) (L' := [(2, zI 0), (0, zR (some 0)), (1, zR (some 4))]) (by decide +kernel) (by decide) rfl (?_ : AW _ _ _ _ 2 _ _ _ _ _ _)
  refine AW.sub (L' := [(0, zR (some 0)), (1, zR (some 4)), (2, zI 0)]) [1, 2, 0] rfl ?_
  exact j_Fund_readTerms_2 μ
theorem c_Fund_readTerms (l : Launch) (hl : l.stackTraces = false) (μ : ZMem) (r : ZRes) (h : F_Fund_readTerms μ = some r) : ZC l cf_Fund_readTerms S_Fund3 S_Fund3 [zR (some 0), zR (some 4)] μ r := ZC.of hl (by decide +kernel) rfl rfl zft_X1_ok (Nat.le_of_ble_eq_true rfl) h (w_Fund_readTerms μ)
/-! WeirLedger$Fund.readExcuse(LWeirLedger$Text;)Z -/
def cf_Fund_readExcuse : ZCf := (yX1_readExcuse, cX1_readExcuse, 6, some .boolean, [], 4, 0, 0, zft_X1, none)
theorem cal_Fund_readExcuse : zCallee cf_Fund_readExcuse 1 := ⟨rfl, zc_yX1_readExcuse, by decide, by decide, by decide +kernel⟩
def J_Fund_readExcuse_86 (u3 : Int) (μ : ZMem) : Option ZRes := zCm [4, 5] μ (F_Text_refuse u3 (zVw [4, 5] μ)) (zkI (fun x15 μ14 => if x15 = 0 ∨ x15 = 1 then some (.inr (some (zI x15)), μ14) else none)) zX0
set_option maxRecDepth 100000 in
theorem j_Fund_readExcuse_86 (u3 : Int) (μ : ZMem) : AW cf_Fund_readExcuse S_Fund3.length S_Fund3 S_Fund3 86 [(1, zR (some 4)), (3, zI u3)] [] μ 0 0 (J_Fund_readExcuse_86 u3 μ) := by
  unfold J_Fund_readExcuse_86
  refine AW.aload_n (i := 1) (a := 4) (by decide +kernel) rfl (?_ : AW _ _ _ _ 87 _ _ _ _ _ _)
  refine AW.iload_n (i := 3) (a := u3) (by decide +kernel) rfl (?_ : AW _ _ _ _ 88 _ _ _ _ _ _)
  refine AW.callVm (g := cf_Text_refuse) (Sg := S_Text) (pl := [4, 5]) (av := [zI u3]) (b0 := 0) (ci := 6) (idx := 106) (n := 1) (st := []) (by decide +kernel) (fun l hl r hr => c_Text_refuse l hl u3 _ r hr) sb_11 rfl cal_Text_refuse rfl (zw4 zm_X1_106 zi_yX6_refuse zs_yX6_refuse zn_X6) rfl rfl ⟨by decide, by decide, by decide, by decide⟩ (Nat.le_of_ble_eq_true rfl) (Or.inl rfl) (fun v μ14 => AW.rI (fun x15 => (?_ : AW _ _ _ _ 91 _ _ _ _ _ _)) v)
  exact AW.retb (by decide +kernel) rfl (by decide) (by decide)
def F_Fund_readExcuse (μ : ZMem) : Option ZRes := zCm [4, 5] μ (F_Text_takeNumber 0 ((μ 0 3) - 1) (zVw [4, 5] μ)) (zkI (fun x2 μ1 => zCm [4, 5] μ1 (F_Text_isRight  (zVw [4, 5] μ1)) (zkI (fun x4 μ3 => if w32 x4 = 0 then (some (.inr (some (zI 0)), μ3)) else (zCm [4, 5] μ3 (F_Text_next  (zVw [4, 5] μ3)) (zkI (fun x6 μ5 => zCm [4, 5] μ5 (F_Text_takeNumber 0 ((μ5 0 4) - 1) (zVw [4, 5] μ5)) (zkI (fun x8 μ7 => zCm [4, 5] μ7 (F_Text_isRight  (zVw [4, 5] μ7)) (zkI (fun x10 μ9 => if w32 x10 = 0 then (some (.inr (some (zI 0)), μ9)) else (zRd μ9 3 6 x8 (fun x11 => zLet ((zor x11 (zshl 1 x2))) (fun x12 => zRd μ9 3 6 x8 (fun x13 => if w32 x12 = w32 x13 then (J_Fund_readExcuse_86 x6 μ9) else (if w32 x12 = w32 ((zshl 1 (μ9 0 3)) - 1) then (J_Fund_readExcuse_86 x6 μ9) else (zWr μ9 3 6 x8 x12 (fun μ16 => some (.inr (some (zI 1)), μ16)))))))))) zX0)) zX0)) zX0))) zX0)) zX0
set_option maxRecDepth 100000 in
theorem w_Fund_readExcuse (μ : ZMem) : AW cf_Fund_readExcuse S_Fund3.length S_Fund3 S_Fund3 0 [(0, zR (some 0)), (1, zR (some 4))] [] μ 0 0 (F_Fund_readExcuse μ) := by
  unfold F_Fund_readExcuse
  refine AW.aload_n (i := 1) (a := 4) (by decide +kernel) rfl (?_ : AW _ _ _ _ 1 _ _ _ _ _ _)
  refine AW.iconst (n := 0) (by decide +kernel) (?_ : AW _ _ _ _ 2 _ _ _ _ _ _)
  refine AW.aload_n (i := 0) (a := 0) (by decide +kernel) rfl (?_ : AW _ _ _ _ 3 _ _ _ _ _ _)
  refine AW.getI (idx := 27) (ci := 1) (k := 3) (r := 0) (by decide +kernel) rfl rfl rfl (?_ : AW _ _ _ _ 6 _ _ _ _ _ _)
  refine AW.iconst (n := 1) (by decide +kernel) (?_ : AW _ _ _ _ 7 _ _ _ _ _ _)
  refine AW.isub (by decide +kernel) (?_ : AW _ _ _ _ 8 _ _ _ _ _ _)
  refine AW.callVm (g := cf_Text_takeNumber) (Sg := S_Text) (pl := [4, 5]) (av := [zI 0, zI ((μ 0 3) - 1)]) (b0 := 0) (ci := 6) (idx := 79) (n := 2) (st := []) (by decide +kernel) (fun l hl r hr => c_Text_takeNumber l hl 0 ((μ 0 3) - 1) _ r hr) sb_11 rfl cal_Text_takeNumber rfl (zw4 zm_X1_79 zi_yX6_takeNumber zs_yX6_takeNumber zn_X6) rfl rfl ⟨by decide, by decide, by decide, by decide⟩ (Nat.le_of_ble_eq_true rfl) (Or.inl rfl) (fun v μ1 => AW.rI (fun x2 => (?_ : AW _ _ _ _ 11 _ _ _ _ _ _)) v)
  refine AW.istore_n' (i := 2) (L' := [(2, zI x2), (0, zR (some 0)), (1, zR (some 4))]) (by decide +kernel) (by decide) rfl (?_ : AW _ _ _ _ 12 _ _ _ _ _ _)
  refine AW.aload_n (i := 1) (a := 4) (by decide +kernel) rfl (?_ : AW _ _ _ _ 13 _ _ _ _ _ _)
  refine AW.callVm (g := cf_Text_isRight) (Sg := S_Text) (pl := [4, 5]) (av := []) (b0 := 0) (ci := 6) (idx := 83) (n := 0) (st := []) (by decide +kernel) (fun l hl r hr => c_Text_isRight l hl  _ r hr) sb_11 rfl cal_Text_isRight rfl (zw4 zm_X1_83 zi_yX6_isRight zs_yX6_isRight zn_X6) rfl rfl ⟨by decide, by decide, by decide, by decide⟩ (Nat.le_of_ble_eq_true rfl) (Or.inl rfl) (fun v μ3 => AW.rI (fun x4 => (?_ : AW _ _ _ _ 16 _ _ _ _ _ _)) v)
  refine AW.if_ne (off := 5) (tgt := 21) (by decide +kernel) (by decide) (fun _ => ?_) (fun _ => ?_)
  · refine AW.iconst (n := 0) (by decide +kernel) (?_ : AW _ _ _ _ 20 _ _ _ _ _ _)
    exact AW.retb1 (by decide +kernel) rfl (by decide) (by decide) (by decide)
  · refine AW.aload_n (i := 1) (a := 4) (by decide +kernel) rfl (?_ : AW _ _ _ _ 22 _ _ _ _ _ _)
    refine AW.callVm (g := cf_Text_next) (Sg := S_Text) (pl := [4, 5]) (av := []) (b0 := 0) (ci := 6) (idx := 100) (n := 0) (st := []) (by decide +kernel) (fun l hl r hr => c_Text_next l hl  _ r hr) sb_11 rfl cal_Text_next rfl (zw4 zm_X1_100 zi_yX6_next zs_yX6_next zn_X6) rfl rfl ⟨by decide, by decide, by decide, by decide⟩ (Nat.le_of_ble_eq_true rfl) (Or.inl rfl) (fun v μ5 => AW.rI (fun x6 => (?_ : AW _ _ _ _ 25 _ _ _ _ _ _)) v)
    refine AW.istore_n' (i := 3) (L' := [(3, zI x6), (2, zI x2), (0, zR (some 0)), (1, zR (some 4))]) (by decide +kernel) (by decide) rfl (?_ : AW _ _ _ _ 26 _ _ _ _ _ _)
    refine AW.aload_n (i := 1) (a := 4) (by decide +kernel) rfl (?_ : AW _ _ _ _ 27 _ _ _ _ _ _)
    refine AW.iconst (n := 0) (by decide +kernel) (?_ : AW _ _ _ _ 28 _ _ _ _ _ _)
    refine AW.aload_n (i := 0) (a := 0) (by decide +kernel) rfl (?_ : AW _ _ _ _ 29 _ _ _ _ _ _)
    refine AW.getI (idx := 31) (ci := 1) (k := 4) (r := 0) (by decide +kernel) rfl rfl rfl (?_ : AW _ _ _ _ 32 _ _ _ _ _ _)
    refine AW.iconst (n := 1) (by decide +kernel) (?_ : AW _ _ _ _ 33 _ _ _ _ _ _)
    refine AW.isub (by decide +kernel) (?_ : AW _ _ _ _ 34 _ _ _ _ _ _)
    refine AW.callVm (g := cf_Text_takeNumber) (Sg := S_Text) (pl := [4, 5]) (av := [zI 0, zI ((μ5 0 4) - 1)]) (b0 := 0) (ci := 6) (idx := 79) (n := 2) (st := []) (by decide +kernel) (fun l hl r hr => c_Text_takeNumber l hl 0 ((μ5 0 4) - 1) _ r hr) sb_11 rfl cal_Text_takeNumber rfl (zw4 zm_X1_79 zi_yX6_takeNumber zs_yX6_takeNumber zn_X6) rfl rfl ⟨by decide, by decide, by decide, by decide⟩ (Nat.le_of_ble_eq_true rfl) (Or.inl rfl) (fun v μ7 => AW.rI (fun x8 => (?_ : AW _ _ _ _ 37 _ _ _ _ _ _)) v)
    refine AW.istore' (i := 4) (L' := [(4, zI x8), (3, zI x6), (2, zI x2), (0, zR (some 0)), (1, zR (some 4))]) (by decide +kernel) (by decide) rfl (?_ : AW _ _ _ _ 39 _ _ _ _ _ _)
    refine AW.aload_n (i := 1) (a := 4) (by decide +kernel) rfl (?_ : AW _ _ _ _ 40 _ _ _ _ _ _)
    refine AW.callVm (g := cf_Text_isRight) (Sg := S_Text) (pl := [4, 5]) (av := []) (b0 := 0) (ci := 6) (idx := 83) (n := 0) (st := []) (by decide +kernel) (fun l hl r hr => c_Text_isRight l hl  _ r hr) sb_11 rfl cal_Text_isRight rfl (zw4 zm_X1_83 zi_yX6_isRight zs_yX6_isRight zn_X6) rfl rfl ⟨by decide, by decide, by decide, by decide⟩ (Nat.le_of_ble_eq_true rfl) (Or.inl rfl) (fun v μ9 => AW.rI (fun x10 => (?_ : AW _ _ _ _ 43 _ _ _ _ _ _)) v)
    refine AW.if_ne (off := 5) (tgt := 48) (by decide +kernel) (by decide) (fun _ => ?_) (fun _ => ?_)
    · refine AW.iconst (n := 0) (by decide +kernel) (?_ : AW _ _ _ _ 47 _ _ _ _ _ _)
      exact AW.retb1 (by decide +kernel) rfl (by decide) (by decide) (by decide)
    · refine AW.aload_n (i := 0) (a := 0) (by decide +kernel) rfl (?_ : AW _ _ _ _ 49 _ _ _ _ _ _)
      refine AW.getR (idx := 18) (ci := 1) (k := 2) (r := 0) (by decide +kernel) rfl rfl rfl (?_ : AW _ _ _ _ 52 _ _ _ _ _ _)
      refine AW.iload (i := 4) (a := x8) (by decide +kernel) rfl (?_ : AW _ _ _ _ 54 _ _ _ _ _ _)
      refine AW.iald (r := 3) (by decide +kernel) rfl (fun x11 => (?_ : AW _ _ _ _ 55 _ _ _ _ _ _))
      refine AW.iconst (n := 1) (by decide +kernel) (?_ : AW _ _ _ _ 56 _ _ _ _ _ _)
      refine AW.iload_n (i := 2) (a := x2) (by decide +kernel) rfl (?_ : AW _ _ _ _ 57 _ _ _ _ _ _)
      refine AW.ishl (by decide +kernel) (?_ : AW _ _ _ _ 58 _ _ _ _ _ _)
      refine AW.ior (by decide +kernel) (?_ : AW _ _ _ _ 59 _ _ _ _ _ _)
      refine AW.istoreL (i := 5) (L' := fun x12 => [(5, zI x12), (4, zI x8), (3, zI x6), (2, zI x2), (0, zR (some 0)), (1, zR (some 4))]) (by decide +kernel) (by decide) (fun _ => rfl) (fun x12 => (?_ : AW _ _ _ _ 61 _ _ _ _ _ _))
      refine AW.iload (i := 5) (a := x12) (by decide +kernel) rfl (?_ : AW _ _ _ _ 63 _ _ _ _ _ _)
      refine AW.aload_n (i := 0) (a := 0) (by decide +kernel) rfl (?_ : AW _ _ _ _ 64 _ _ _ _ _ _)
      refine AW.getR (idx := 18) (ci := 1) (k := 2) (r := 0) (by decide +kernel) rfl rfl rfl (?_ : AW _ _ _ _ 67 _ _ _ _ _ _)
      refine AW.iload (i := 4) (a := x8) (by decide +kernel) rfl (?_ : AW _ _ _ _ 69 _ _ _ _ _ _)
      refine AW.iald (r := 3) (by decide +kernel) rfl (fun x13 => (?_ : AW _ _ _ _ 70 _ _ _ _ _ _))
      refine AW.icmp_eq (off := 16) (tgt := 86) (by decide +kernel) (by decide) (fun _ => ?_) (fun _ => ?_)
      · refine AW.sub (L' := [(1, zR (some 4)), (3, zI x6)]) [5, 2] rfl ?_
        exact j_Fund_readExcuse_86 x6 μ9
      · refine AW.iload (i := 5) (a := x12) (by decide +kernel) rfl (?_ : AW _ _ _ _ 75 _ _ _ _ _ _)
        refine AW.iconst (n := 1) (by decide +kernel) (?_ : AW _ _ _ _ 76 _ _ _ _ _ _)
        refine AW.aload_n (i := 0) (a := 0) (by decide +kernel) rfl (?_ : AW _ _ _ _ 77 _ _ _ _ _ _)
        refine AW.getI (idx := 27) (ci := 1) (k := 3) (r := 0) (by decide +kernel) rfl rfl rfl (?_ : AW _ _ _ _ 80 _ _ _ _ _ _)
        refine AW.ishl (by decide +kernel) (?_ : AW _ _ _ _ 81 _ _ _ _ _ _)
        refine AW.iconst (n := 1) (by decide +kernel) (?_ : AW _ _ _ _ 82 _ _ _ _ _ _)
        refine AW.isub (by decide +kernel) (?_ : AW _ _ _ _ 83 _ _ _ _ _ _)
        refine AW.icmp_ne (off := 9) (tgt := 92) (by decide +kernel) (by decide) (fun _ => ?_) (fun _ => ?_)
        · refine AW.sub (L' := [(1, zR (some 4)), (3, zI x6)]) [5, 2] rfl ?_
          exact j_Fund_readExcuse_86 x6 μ9
        · refine AW.aload_n (i := 0) (a := 0) (by decide +kernel) rfl (?_ : AW _ _ _ _ 93 _ _ _ _ _ _)
          refine AW.getR (idx := 18) (ci := 1) (k := 2) (r := 0) (by decide +kernel) rfl rfl rfl (?_ : AW _ _ _ _ 96 _ _ _ _ _ _)
          refine AW.iload (i := 4) (a := x8) (by decide +kernel) rfl (?_ : AW _ _ _ _ 98 _ _ _ _ _ _)
          refine AW.iload (i := 5) (a := x12) (by decide +kernel) rfl (?_ : AW _ _ _ _ 100 _ _ _ _ _ _)
          refine AW.iastL (r := 3) (by decide +kernel) rfl (fun μ16 => (?_ : AW _ _ _ _ 101 _ _ _ _ _ _))
          refine AW.iconst (n := 1) (by decide +kernel) (?_ : AW _ _ _ _ 102 _ _ _ _ _ _)
          exact AW.retb1 (by decide +kernel) rfl (by decide) (by decide) (by decide)
theorem c_Fund_readExcuse (l : Launch) (hl : l.stackTraces = false) (μ : ZMem) (r : ZRes) (h : F_Fund_readExcuse μ = some r) : ZC l cf_Fund_readExcuse S_Fund3 S_Fund3 [zR (some 0), zR (some 4)] μ r := ZC.of hl (by decide +kernel) rfl rfl zft_X1_ok (Nat.le_of_ble_eq_true rfl) h (w_Fund_readExcuse μ)
/-! WeirLedger$Fund.readLine(LWeirLedger$Text;)Z -/
def cf_Fund_readLine : ZCf := (yX1_readLine, cX1_readLine, 3, some .boolean, [], 11, 0, 0, zft_X1, none)
theorem cal_Fund_readLine : zCallee cf_Fund_readLine 1 := ⟨rfl, zc_yX1_readLine, by decide, by decide, by decide +kernel⟩
def F_Fund_readLine (μ : ZMem) : Option ZRes := zCm [4, 5] μ (F_Text_next  (zVw [4, 5] μ)) (zkI (fun x2 μ1 => zCm [4, 5] μ1 (F_Text_takeWord 8 (zVw [4, 5] μ1)) (zkI (fun x4 μ3 => if w32 x4 = 0 then (zCm [4, 5] μ3 (F_Text_takeWord 9 (zVw [4, 5] μ3)) (zkI (fun x6 μ5 => if w32 x6 = 0 then (zCm [4, 5] μ5 (F_Text_takeWord 10 (zVw [4, 5] μ5)) (zkI (fun x8 μ7 => if w32 x8 = 0 then (zCm [4, 5] μ7 (F_Text_refuse x2 (zVw [4, 5] μ7)) (zkI (fun x10 μ9 => if x10 = 0 ∨ x10 = 1 then some (.inr (some (zI x10)), μ9) else none)) zX0) else (zC (F_Fund_readExcuse  μ7) (zkI (fun x12 μ11 => if x12 = 0 ∨ x12 = 1 then some (.inr (some (zI x12)), μ11) else none)) zX0))) zX0) else (if w32 (μ5 0 5) = 0 then (zLet (zUp μ5 0 5 1) (fun μ13 => zCm [4, 5] μ13 (F_Text_takeNumber 0 6 (zVw [4, 5] μ13)) (zkI (fun x15 μ14 => zLet (zUp μ14 0 4 x15) (fun μ16 => zCm [4, 5] μ16 (F_Text_isRight  (zVw [4, 5] μ16)) (zkI (fun x18 μ17 => if x18 = 0 ∨ x18 = 1 then some (.inr (some (zI x18)), μ17) else none)) zX0))) zX0)) else (zCm [4, 5] μ5 (F_Text_refuse x2 (zVw [4, 5] μ5)) (zkI (fun x20 μ19 => if x20 = 0 ∨ x20 = 1 then some (.inr (some (zI x20)), μ19) else none)) zX0)))) zX0) else (if w32 (μ3 0 3) < w32 6 then (zCm [4, 5] μ3 (F_Text_takeNumber 1 9999 (zVw [4, 5] μ3)) (zkI (fun x22 μ21 => zWr μ21 2 6 (μ3 0 3) x22 (fun μ23 => zLet (zUp μ23 0 3 ((μ23 0 3) + 1)) (fun μ24 => zCm [4, 5] μ24 (F_Text_isRight  (zVw [4, 5] μ24)) (zkI (fun x26 μ25 => if x26 = 0 ∨ x26 = 1 then some (.inr (some (zI x26)), μ25) else none)) zX0)))) zX0) else (zCm [4, 5] μ3 (F_Text_refuse x2 (zVw [4, 5] μ3)) (zkI (fun x28 μ27 => if x28 = 0 ∨ x28 = 1 then some (.inr (some (zI x28)), μ27) else none)) zX0)))) zX0)) zX0
set_option maxRecDepth 100000 in
theorem w_Fund_readLine (μ : ZMem) : AW cf_Fund_readLine S_Fund3.length S_Fund3 S_Fund3 0 [(0, zR (some 0)), (1, zR (some 4))] [] μ 0 0 (F_Fund_readLine μ) := by
  unfold F_Fund_readLine
  refine AW.aload_n (i := 1) (a := 4) (by decide +kernel) rfl (?_ : AW _ _ _ _ 1 _ _ _ _ _ _)
  refine AW.callVm (g := cf_Text_next) (Sg := S_Text) (pl := [4, 5]) (av := []) (b0 := 0) (ci := 6) (idx := 100) (n := 0) (st := []) (by decide +kernel) (fun l hl r hr => c_Text_next l hl  _ r hr) sb_11 rfl cal_Text_next rfl (zw4 zm_X1_100 zi_yX6_next zs_yX6_next zn_X6) rfl rfl ⟨by decide, by decide, by decide, by decide⟩ (Nat.le_of_ble_eq_true rfl) (Or.inl rfl) (fun v μ1 => AW.rI (fun x2 => (?_ : AW _ _ _ _ 4 _ _ _ _ _ _)) v)
  refine AW.istore_n' (i := 2) (L' := [(2, zI x2), (0, zR (some 0)), (1, zR (some 4))]) (by decide +kernel) (by decide) rfl (?_ : AW _ _ _ _ 5 _ _ _ _ _ _)
  refine AW.aload_n (i := 1) (a := 4) (by decide +kernel) rfl (?_ : AW _ _ _ _ 6 _ _ _ _ _ _)
  refine AW.ldcs (idx := 104) (tx := "investor") (j := 8) (q := 1000008) (by decide +kernel) (by decide +kernel) rfl (?_ : AW _ _ _ _ 8 _ _ _ _ _ _)
  refine AW.callVm (g := cf_Text_takeWord) (Sg := S_Text) (pl := [4, 5]) (av := [zR (some (zSB + 8))]) (b0 := 0) (ci := 6) (idx := 49) (n := 1) (st := []) (by decide +kernel) (fun l hl r hr => c_Text_takeWord l hl 8 _ r hr) sb_11 rfl cal_Text_takeWord rfl (zw4 zm_X1_49 zi_yX6_takeWord zs_yX6_takeWord zn_X6) rfl rfl ⟨by decide, by decide, by decide, by decide⟩ (Nat.le_of_ble_eq_true rfl) (Or.inl rfl) (fun v μ3 => AW.rI (fun x4 => (?_ : AW _ _ _ _ 11 _ _ _ _ _ _)) v)
  refine AW.if_eq (off := 50) (tgt := 61) (by decide +kernel) (by decide) (fun _ => ?_) (fun _ => ?_)
  · refine AW.aload_n (i := 1) (a := 4) (by decide +kernel) rfl (?_ : AW _ _ _ _ 62 _ _ _ _ _ _)
    refine AW.ldcs (idx := 110) (tx := "deals") (j := 9) (q := 1000009) (by decide +kernel) (by decide +kernel) rfl (?_ : AW _ _ _ _ 64 _ _ _ _ _ _)
    refine AW.callVm (g := cf_Text_takeWord) (Sg := S_Text) (pl := [4, 5]) (av := [zR (some (zSB + 9))]) (b0 := 0) (ci := 6) (idx := 49) (n := 1) (st := []) (by decide +kernel) (fun l hl r hr => c_Text_takeWord l hl 9 _ r hr) sb_11 rfl cal_Text_takeWord rfl (zw4 zm_X1_49 zi_yX6_takeWord zs_yX6_takeWord zn_X6) rfl rfl ⟨by decide, by decide, by decide, by decide⟩ (Nat.le_of_ble_eq_true rfl) (Or.inl rfl) (fun v μ5 => AW.rI (fun x6 => (?_ : AW _ _ _ _ 67 _ _ _ _ _ _)) v)
    refine AW.if_eq (off := 37) (tgt := 104) (by decide +kernel) (by decide) (fun _ => ?_) (fun _ => ?_)
    · refine AW.aload_n (i := 1) (a := 4) (by decide +kernel) rfl (?_ : AW _ _ _ _ 105 _ _ _ _ _ _)
      refine AW.ldcs (idx := 112) (tx := "excuse") (j := 10) (q := 1000010) (by decide +kernel) (by decide +kernel) rfl (?_ : AW _ _ _ _ 107 _ _ _ _ _ _)
      refine AW.callVm (g := cf_Text_takeWord) (Sg := S_Text) (pl := [4, 5]) (av := [zR (some (zSB + 10))]) (b0 := 0) (ci := 6) (idx := 49) (n := 1) (st := []) (by decide +kernel) (fun l hl r hr => c_Text_takeWord l hl 10 _ r hr) sb_11 rfl cal_Text_takeWord rfl (zw4 zm_X1_49 zi_yX6_takeWord zs_yX6_takeWord zn_X6) rfl rfl ⟨by decide, by decide, by decide, by decide⟩ (Nat.le_of_ble_eq_true rfl) (Or.inl rfl) (fun v μ7 => AW.rI (fun x8 => (?_ : AW _ _ _ _ 110 _ _ _ _ _ _)) v)
      refine AW.if_eq (off := 11) (tgt := 121) (by decide +kernel) (by decide) (fun _ => ?_) (fun _ => ?_)
      · refine AW.aload_n (i := 1) (a := 4) (by decide +kernel) rfl (?_ : AW _ _ _ _ 122 _ _ _ _ _ _)
        refine AW.iload_n (i := 2) (a := x2) (by decide +kernel) rfl (?_ : AW _ _ _ _ 123 _ _ _ _ _ _)
        refine AW.callVm (g := cf_Text_refuse) (Sg := S_Text) (pl := [4, 5]) (av := [zI x2]) (b0 := 0) (ci := 6) (idx := 106) (n := 1) (st := []) (by decide +kernel) (fun l hl r hr => c_Text_refuse l hl x2 _ r hr) sb_11 rfl cal_Text_refuse rfl (zw4 zm_X1_106 zi_yX6_refuse zs_yX6_refuse zn_X6) rfl rfl ⟨by decide, by decide, by decide, by decide⟩ (Nat.le_of_ble_eq_true rfl) (Or.inl rfl) (fun v μ9 => AW.rI (fun x10 => (?_ : AW _ _ _ _ 126 _ _ _ _ _ _)) v)
        exact AW.retb (by decide +kernel) rfl (by decide) (by decide)
      · refine AW.aload_n (i := 0) (a := 0) (by decide +kernel) rfl (?_ : AW _ _ _ _ 114 _ _ _ _ _ _)
        refine AW.aload_n (i := 1) (a := 4) (by decide +kernel) rfl (?_ : AW _ _ _ _ 115 _ _ _ _ _ _)
        refine AW.callVw (g := cf_Fund_readExcuse) (av := [zR (some 4)]) (b0 := 0) (ci := 1) (idx := 114) (n := 1) (st := []) (by decide +kernel) (fun l hl r hr => c_Fund_readExcuse l hl  _ r hr) S_Fund3_wf rfl cal_Fund_readExcuse rfl (zw4 zm_X1_114 zi_yX1_readExcuse zs_yX1_readExcuse zn_X1) rfl rfl ⟨by decide, by decide, by decide, by decide⟩ (Nat.le_of_ble_eq_true rfl) (Or.inl rfl) (fun v μ11 => AW.kI (fun x12 => (?_ : AW _ _ _ _ 118 _ _ _ _ _ _)) v)
        refine AW.goto (off := 8) (tgt := 126) (by decide +kernel) (by decide) ?_
        exact AW.retb (by decide +kernel) rfl (by decide) (by decide)
    · refine AW.aload_n (i := 0) (a := 0) (by decide +kernel) rfl (?_ : AW _ _ _ _ 71 _ _ _ _ _ _)
      refine AW.getZ (idx := 34) (ci := 1) (k := 5) (r := 0) (by decide +kernel) rfl rfl rfl (?_ : AW _ _ _ _ 74 _ _ _ _ _ _)
      refine AW.if_eq (off := 9) (tgt := 83) (by decide +kernel) (by decide) (fun _ => ?_) (fun _ => ?_)
      · refine AW.aload_n (i := 0) (a := 0) (by decide +kernel) rfl (?_ : AW _ _ _ _ 84 _ _ _ _ _ _)
        refine AW.iconst (n := 1) (by decide +kernel) (?_ : AW _ _ _ _ 85 _ _ _ _ _ _)
        refine AW.putb1L (idx := 34) (ci := 1) (k := 5) (r := 0) (by decide +kernel) rfl rfl rfl (by decide) (fun μ13 => (?_ : AW _ _ _ _ 88 _ _ _ _ _ _))
        refine AW.aload_n (i := 0) (a := 0) (by decide +kernel) rfl (?_ : AW _ _ _ _ 89 _ _ _ _ _ _)
        refine AW.aload_n (i := 1) (a := 4) (by decide +kernel) rfl (?_ : AW _ _ _ _ 90 _ _ _ _ _ _)
        refine AW.iconst (n := 0) (by decide +kernel) (?_ : AW _ _ _ _ 91 _ _ _ _ _ _)
        refine AW.bipush (n := 6) (by decide +kernel) (by decide +kernel) (?_ : AW _ _ _ _ 93 _ _ _ _ _ _)
        refine AW.callVm (g := cf_Text_takeNumber) (Sg := S_Text) (pl := [4, 5]) (av := [zI 0, zI 6]) (b0 := 0) (ci := 6) (idx := 79) (n := 2) (st := [zR (some 0)]) (by decide +kernel) (fun l hl r hr => c_Text_takeNumber l hl 0 6 _ r hr) sb_11 rfl cal_Text_takeNumber rfl (zw4 zm_X1_79 zi_yX6_takeNumber zs_yX6_takeNumber zn_X6) rfl rfl ⟨by decide, by decide, by decide, by decide⟩ (Nat.le_of_ble_eq_true rfl) (Or.inl rfl) (fun v μ14 => AW.rI (fun x15 => (?_ : AW _ _ _ _ 96 _ _ _ _ _ _)) v)
        refine AW.putiL (idx := 31) (ci := 1) (k := 4) (r := 0) (by decide +kernel) rfl rfl rfl (fun μ16 => (?_ : AW _ _ _ _ 99 _ _ _ _ _ _))
        refine AW.aload_n (i := 1) (a := 4) (by decide +kernel) rfl (?_ : AW _ _ _ _ 100 _ _ _ _ _ _)
        refine AW.callVm (g := cf_Text_isRight) (Sg := S_Text) (pl := [4, 5]) (av := []) (b0 := 0) (ci := 6) (idx := 83) (n := 0) (st := []) (by decide +kernel) (fun l hl r hr => c_Text_isRight l hl  _ r hr) sb_11 rfl cal_Text_isRight rfl (zw4 zm_X1_83 zi_yX6_isRight zs_yX6_isRight zn_X6) rfl rfl ⟨by decide, by decide, by decide, by decide⟩ (Nat.le_of_ble_eq_true rfl) (Or.inl rfl) (fun v μ17 => AW.rI (fun x18 => (?_ : AW _ _ _ _ 103 _ _ _ _ _ _)) v)
        exact AW.retb (by decide +kernel) rfl (by decide) (by decide)
      · refine AW.aload_n (i := 1) (a := 4) (by decide +kernel) rfl (?_ : AW _ _ _ _ 78 _ _ _ _ _ _)
        refine AW.iload_n (i := 2) (a := x2) (by decide +kernel) rfl (?_ : AW _ _ _ _ 79 _ _ _ _ _ _)
        refine AW.callVm (g := cf_Text_refuse) (Sg := S_Text) (pl := [4, 5]) (av := [zI x2]) (b0 := 0) (ci := 6) (idx := 106) (n := 1) (st := []) (by decide +kernel) (fun l hl r hr => c_Text_refuse l hl x2 _ r hr) sb_11 rfl cal_Text_refuse rfl (zw4 zm_X1_106 zi_yX6_refuse zs_yX6_refuse zn_X6) rfl rfl ⟨by decide, by decide, by decide, by decide⟩ (Nat.le_of_ble_eq_true rfl) (Or.inl rfl) (fun v μ19 => AW.rI (fun x20 => (?_ : AW _ _ _ _ 82 _ _ _ _ _ _)) v)
        exact AW.retb (by decide +kernel) rfl (by decide) (by decide)
  · refine AW.aload_n (i := 0) (a := 0) (by decide +kernel) rfl (?_ : AW _ _ _ _ 15 _ _ _ _ _ _)
    refine AW.getI (idx := 27) (ci := 1) (k := 3) (r := 0) (by decide +kernel) rfl rfl rfl (?_ : AW _ _ _ _ 18 _ _ _ _ _ _)
    refine AW.bipush (n := 6) (by decide +kernel) (by decide +kernel) (?_ : AW _ _ _ _ 20 _ _ _ _ _ _)
    refine AW.icmp_lt (off := 9) (tgt := 29) (by decide +kernel) (by decide) (fun _ => ?_) (fun _ => ?_)
    · refine AW.aload_n (i := 0) (a := 0) (by decide +kernel) rfl (?_ : AW _ _ _ _ 30 _ _ _ _ _ _)
      refine AW.getR (idx := 15) (ci := 1) (k := 1) (r := 0) (by decide +kernel) rfl rfl rfl (?_ : AW _ _ _ _ 33 _ _ _ _ _ _)
      refine AW.aload_n (i := 0) (a := 0) (by decide +kernel) rfl (?_ : AW _ _ _ _ 34 _ _ _ _ _ _)
      refine AW.getI (idx := 27) (ci := 1) (k := 3) (r := 0) (by decide +kernel) rfl rfl rfl (?_ : AW _ _ _ _ 37 _ _ _ _ _ _)
      refine AW.aload_n (i := 1) (a := 4) (by decide +kernel) rfl (?_ : AW _ _ _ _ 38 _ _ _ _ _ _)
      refine AW.iconst (n := 1) (by decide +kernel) (?_ : AW _ _ _ _ 39 _ _ _ _ _ _)
      refine AW.sipush (n := 9999) (by decide +kernel) (by decide +kernel) (?_ : AW _ _ _ _ 42 _ _ _ _ _ _)
      refine AW.callVm (g := cf_Text_takeNumber) (Sg := S_Text) (pl := [4, 5]) (av := [zI 1, zI 9999]) (b0 := 0) (ci := 6) (idx := 79) (n := 2) (st := [zI (μ3 0 3), zR (some 2)]) (by decide +kernel) (fun l hl r hr => c_Text_takeNumber l hl 1 9999 _ r hr) sb_11 rfl cal_Text_takeNumber rfl (zw4 zm_X1_79 zi_yX6_takeNumber zs_yX6_takeNumber zn_X6) rfl rfl ⟨by decide, by decide, by decide, by decide⟩ (Nat.le_of_ble_eq_true rfl) (Or.inl rfl) (fun v μ21 => AW.rI (fun x22 => (?_ : AW _ _ _ _ 45 _ _ _ _ _ _)) v)
      refine AW.iastL (r := 2) (by decide +kernel) rfl (fun μ23 => (?_ : AW _ _ _ _ 46 _ _ _ _ _ _))
      refine AW.aload_n (i := 0) (a := 0) (by decide +kernel) rfl (?_ : AW _ _ _ _ 47 _ _ _ _ _ _)
      refine AW.dup (by decide +kernel) rfl (?_ : AW _ _ _ _ 48 _ _ _ _ _ _)
      refine AW.getI (idx := 27) (ci := 1) (k := 3) (r := 0) (by decide +kernel) rfl rfl rfl (?_ : AW _ _ _ _ 51 _ _ _ _ _ _)
      refine AW.iconst (n := 1) (by decide +kernel) (?_ : AW _ _ _ _ 52 _ _ _ _ _ _)
      refine AW.iadd (by decide +kernel) (?_ : AW _ _ _ _ 53 _ _ _ _ _ _)
      refine AW.putiL (idx := 27) (ci := 1) (k := 3) (r := 0) (by decide +kernel) rfl rfl rfl (fun μ24 => (?_ : AW _ _ _ _ 56 _ _ _ _ _ _))
      refine AW.aload_n (i := 1) (a := 4) (by decide +kernel) rfl (?_ : AW _ _ _ _ 57 _ _ _ _ _ _)
      refine AW.callVm (g := cf_Text_isRight) (Sg := S_Text) (pl := [4, 5]) (av := []) (b0 := 0) (ci := 6) (idx := 83) (n := 0) (st := []) (by decide +kernel) (fun l hl r hr => c_Text_isRight l hl  _ r hr) sb_11 rfl cal_Text_isRight rfl (zw4 zm_X1_83 zi_yX6_isRight zs_yX6_isRight zn_X6) rfl rfl ⟨by decide, by decide, by decide, by decide⟩ (Nat.le_of_ble_eq_true rfl) (Or.inl rfl) (fun v μ25 => AW.rI (fun x26 => (?_ : AW _ _ _ _ 60 _ _ _ _ _ _)) v)
      exact AW.retb (by decide +kernel) rfl (by decide) (by decide)
    · refine AW.aload_n (i := 1) (a := 4) (by decide +kernel) rfl (?_ : AW _ _ _ _ 24 _ _ _ _ _ _)
      refine AW.iload_n (i := 2) (a := x2) (by decide +kernel) rfl (?_ : AW _ _ _ _ 25 _ _ _ _ _ _)
      refine AW.callVm (g := cf_Text_refuse) (Sg := S_Text) (pl := [4, 5]) (av := [zI x2]) (b0 := 0) (ci := 6) (idx := 106) (n := 1) (st := []) (by decide +kernel) (fun l hl r hr => c_Text_refuse l hl x2 _ r hr) sb_11 rfl cal_Text_refuse rfl (zw4 zm_X1_106 zi_yX6_refuse zs_yX6_refuse zn_X6) rfl rfl ⟨by decide, by decide, by decide, by decide⟩ (Nat.le_of_ble_eq_true rfl) (Or.inl rfl) (fun v μ27 => AW.rI (fun x28 => (?_ : AW _ _ _ _ 28 _ _ _ _ _ _)) v)
      exact AW.retb (by decide +kernel) rfl (by decide) (by decide)
theorem c_Fund_readLine (l : Launch) (hl : l.stackTraces = false) (μ : ZMem) (r : ZRes) (h : F_Fund_readLine μ = some r) : ZC l cf_Fund_readLine S_Fund3 S_Fund3 [zR (some 0), zR (some 4)] μ r := ZC.of hl (by decide +kernel) rfl rfl zft_X1_ok (Nat.le_of_ble_eq_true rfl) h (w_Fund_readLine μ)
/-! WeirLedger$Fund.readFrom(LWeirLedger$Text;)Z -/
def cf_Fund_readFrom : ZCf := (yX1_readFrom, cX1_readFrom, 3, some .boolean, [], 12, 0, 0, zft_X1, none)
theorem cal_Fund_readFrom : zCallee cf_Fund_readFrom 1 := ⟨rfl, zc_yX1_readFrom, by decide, by decide, by decide +kernel⟩
def J_Fund_readFrom_57 (R : Int → ZMem → Option ZRes) (K : ZMem → Option ZRes) (μ : ZMem) : Option ZRes := some (.inr (some (zI 1)), μ)
set_option maxRecDepth 100000 in
theorem j_Fund_readFrom_57 {R : Int → ZMem → Option ZRes} {K : ZMem → Option ZRes} (hR : ∀ (v2 : Int) (μ : ZMem), AW cf_Fund_readFrom S_Fund3.length S_Fund3 S_Fund3 30 [(0, zR (some 0)), (1, zR (some 4)), (2, zI v2)] [] μ 0 0 (R v2 μ)) (hK : ∀ (μ : ZMem), AW cf_Fund_readFrom S_Fund3.length S_Fund3 S_Fund3 91 [(0, zR (some 0)), (1, zR (some 4))] [] μ 0 0 (K μ)) (μ : ZMem) : AW cf_Fund_readFrom S_Fund3.length S_Fund3 S_Fund3 57 [] [] μ 0 0 (J_Fund_readFrom_57 R K μ) := by
  unfold J_Fund_readFrom_57
  refine AW.iconst (n := 1) (by decide +kernel) (?_ : AW _ _ _ _ 58 _ _ _ _ _ _)
  refine AW.goto (off := 4) (tgt := 62) (by decide +kernel) (by decide) ?_
  exact AW.retb1 (by decide +kernel) rfl (by decide) (by decide) (by decide)
def L_Fund_readFrom_30 (K : ZMem → Option ZRes) : Nat → Int → ZMem → Option ZRes
  | 0, _, _ => none
  | n + 1, v2, μ => if w32 14 ≤ w32 v2 then (K  μ) else (zCm [4, 5] μ (F_Text_isThrough  (zVw [4, 5] μ)) (zkI (fun x10 μ9 => if w32 x10 = 0 then (zCm [4, 5] μ9 (F_Text_takeSemicolon  (zVw [4, 5] μ9)) (zkI (fun x12 μ11 => if w32 x12 = 0 then (zCm [4, 5] μ11 (F_Text_refuseNext  (zVw [4, 5] μ11)) (zkI (fun x14 μ13 => if x14 = 0 ∨ x14 = 1 then some (.inr (some (zI x14)), μ13) else none)) zX0) else (zC (F_Fund_readLine  μ11) (zkI (fun x16 μ15 => if w32 x16 = 0 then (some (.inr (some (zI 0)), μ15)) else (zLet (v2 + 1) (fun x17 => L_Fund_readFrom_30 K n x17 μ15)))) zX0))) zX0) else (if 0 < w32 (μ9 0 3) then (J_Fund_readFrom_57 (fun v2 μ => L_Fund_readFrom_30 K n v2 μ) K μ9) else (zCm [4, 5] μ9 (F_Text_refuseNext  (zVw [4, 5] μ9)) (zkI (fun x19 μ18 => if w32 x19 = 0 then (some (.inr (some (zI 0)), μ18)) else (J_Fund_readFrom_57 (fun v2 μ => L_Fund_readFrom_30 K n v2 μ) K μ18))) zX0)))) zX0)
set_option maxRecDepth 100000 in
theorem l_Fund_readFrom_30 {K : ZMem → Option ZRes} (hK : ∀ (μ : ZMem), AW cf_Fund_readFrom S_Fund3.length S_Fund3 S_Fund3 91 [(0, zR (some 0)), (1, zR (some 4))] [] μ 0 0 (K μ)) : ∀ (n : Nat) (v2 : Int) (μ : ZMem), AW cf_Fund_readFrom S_Fund3.length S_Fund3 S_Fund3 30 [(0, zR (some 0)), (1, zR (some 4)), (2, zI v2)] [] μ 0 0 (L_Fund_readFrom_30 K n v2 μ) := by
  intro n
  induction n with
  | zero => intro v2 μ; exact AW.noth
  | succ n ih =>
    intro v2 μ
    rw [L_Fund_readFrom_30]
    refine AW.iload_n (i := 2) (a := v2) (by decide +kernel) rfl (?_ : AW _ _ _ _ 31 _ _ _ _ _ _)
    refine AW.bipush (n := 14) (by decide +kernel) (by decide +kernel) (?_ : AW _ _ _ _ 33 _ _ _ _ _ _)
    refine AW.icmp_ge (off := 58) (tgt := 91) (by decide +kernel) (by decide) (fun _ => ?_) (fun _ => ?_)
    · refine AW.sub (L' := [(0, zR (some 0)), (1, zR (some 4))]) [0, 1] rfl ?_
      exact hK  μ
    · refine AW.aload_n (i := 1) (a := 4) (by decide +kernel) rfl (?_ : AW _ _ _ _ 37 _ _ _ _ _ _)
      refine AW.callVm (g := cf_Text_isThrough) (Sg := S_Text) (pl := [4, 5]) (av := []) (b0 := 0) (ci := 6) (idx := 63) (n := 0) (st := []) (by decide +kernel) (fun l hl r hr => c_Text_isThrough l hl  _ r hr) sb_11 rfl cal_Text_isThrough rfl (zw4 zm_X1_63 zi_yX6_isThrough zs_yX6_isThrough zn_X6) rfl rfl ⟨by decide, by decide, by decide, by decide⟩ (Nat.le_of_ble_eq_true rfl) (Or.inl rfl) (fun v μ9 => AW.rI (fun x10 => (?_ : AW _ _ _ _ 40 _ _ _ _ _ _)) v)
      refine AW.if_eq (off := 23) (tgt := 63) (by decide +kernel) (by decide) (fun _ => ?_) (fun _ => ?_)
      · refine AW.aload_n (i := 1) (a := 4) (by decide +kernel) rfl (?_ : AW _ _ _ _ 64 _ _ _ _ _ _)
        refine AW.callVm (g := cf_Text_takeSemicolon) (Sg := S_Text) (pl := [4, 5]) (av := []) (b0 := 0) (ci := 6) (idx := 66) (n := 0) (st := []) (by decide +kernel) (fun l hl r hr => c_Text_takeSemicolon l hl  _ r hr) sb_11 rfl cal_Text_takeSemicolon rfl (zw4 zm_X1_66 zi_yX6_takeSemicolon zs_yX6_takeSemicolon zn_X6) rfl rfl ⟨by decide, by decide, by decide, by decide⟩ (Nat.le_of_ble_eq_true rfl) (Or.inl rfl) (fun v μ11 => AW.rI (fun x12 => (?_ : AW _ _ _ _ 67 _ _ _ _ _ _)) v)
        refine AW.if_ne (off := 8) (tgt := 75) (by decide +kernel) (by decide) (fun _ => ?_) (fun _ => ?_)
        · refine AW.aload_n (i := 1) (a := 4) (by decide +kernel) rfl (?_ : AW _ _ _ _ 71 _ _ _ _ _ _)
          refine AW.callVm (g := cf_Text_refuseNext) (Sg := S_Text) (pl := [4, 5]) (av := []) (b0 := 0) (ci := 6) (idx := 55) (n := 0) (st := []) (by decide +kernel) (fun l hl r hr => c_Text_refuseNext l hl  _ r hr) sb_11 rfl cal_Text_refuseNext rfl (zw4 zm_X1_55 zi_yX6_refuseNext zs_yX6_refuseNext zn_X6) rfl rfl ⟨by decide, by decide, by decide, by decide⟩ (Nat.le_of_ble_eq_true rfl) (Or.inl rfl) (fun v μ13 => AW.rI (fun x14 => (?_ : AW _ _ _ _ 74 _ _ _ _ _ _)) v)
          exact AW.retb (by decide +kernel) rfl (by decide) (by decide)
        · refine AW.aload_n (i := 0) (a := 0) (by decide +kernel) rfl (?_ : AW _ _ _ _ 76 _ _ _ _ _ _)
          refine AW.aload_n (i := 1) (a := 4) (by decide +kernel) rfl (?_ : AW _ _ _ _ 77 _ _ _ _ _ _)
          refine AW.callVw (g := cf_Fund_readLine) (av := [zR (some 4)]) (b0 := 0) (ci := 1) (idx := 69) (n := 1) (st := []) (by decide +kernel) (fun l hl r hr => c_Fund_readLine l hl  _ r hr) S_Fund3_wf rfl cal_Fund_readLine rfl (zw4 zm_X1_69 zi_yX1_readLine zs_yX1_readLine zn_X1) rfl rfl ⟨by decide, by decide, by decide, by decide⟩ (Nat.le_of_ble_eq_true rfl) (Or.inl rfl) (fun v μ15 => AW.kI (fun x16 => (?_ : AW _ _ _ _ 80 _ _ _ _ _ _)) v)
          refine AW.if_ne (off := 5) (tgt := 85) (by decide +kernel) (by decide) (fun _ => ?_) (fun _ => ?_)
          · refine AW.iconst (n := 0) (by decide +kernel) (?_ : AW _ _ _ _ 84 _ _ _ _ _ _)
            exact AW.retb1 (by decide +kernel) rfl (by decide) (by decide) (by decide)
          · refine AW.iincL (i := 2) (n := 1) (a := v2) (L' := fun x17 => [(2, zI x17), (0, zR (some 0)), (1, zR (some 4))]) (by decide +kernel) rfl (by decide) (fun _ => rfl) (fun x17 => (?_ : AW _ _ _ _ 88 _ _ _ _ _ _))
            refine AW.goto (off := -58) (tgt := 30) (by decide +kernel) (by decide) ?_
            refine AW.sub (L' := [(0, zR (some 0)), (1, zR (some 4)), (2, zI x17)]) [1, 2, 0] rfl ?_
            exact ih x17 μ15
      · refine AW.aload_n (i := 0) (a := 0) (by decide +kernel) rfl (?_ : AW _ _ _ _ 44 _ _ _ _ _ _)
        refine AW.getI (idx := 27) (ci := 1) (k := 3) (r := 0) (by decide +kernel) rfl rfl rfl (?_ : AW _ _ _ _ 47 _ _ _ _ _ _)
        refine AW.if_gt (off := 10) (tgt := 57) (by decide +kernel) (by decide) (fun _ => ?_) (fun _ => ?_)
        · refine AW.sub (L' := []) [] rfl ?_
          exact j_Fund_readFrom_57 ih hK μ9
        · refine AW.aload_n (i := 1) (a := 4) (by decide +kernel) rfl (?_ : AW _ _ _ _ 51 _ _ _ _ _ _)
          refine AW.callVm (g := cf_Text_refuseNext) (Sg := S_Text) (pl := [4, 5]) (av := []) (b0 := 0) (ci := 6) (idx := 55) (n := 0) (st := []) (by decide +kernel) (fun l hl r hr => c_Text_refuseNext l hl  _ r hr) sb_11 rfl cal_Text_refuseNext rfl (zw4 zm_X1_55 zi_yX6_refuseNext zs_yX6_refuseNext zn_X6) rfl rfl ⟨by decide, by decide, by decide, by decide⟩ (Nat.le_of_ble_eq_true rfl) (Or.inl rfl) (fun v μ18 => AW.rI (fun x19 => (?_ : AW _ _ _ _ 54 _ _ _ _ _ _)) v)
          refine AW.if_eq (off := 7) (tgt := 61) (by decide +kernel) (by decide) (fun _ => ?_) (fun _ => ?_)
          · refine AW.iconst (n := 0) (by decide +kernel) (?_ : AW _ _ _ _ 62 _ _ _ _ _ _)
            exact AW.retb1 (by decide +kernel) rfl (by decide) (by decide) (by decide)
          · refine AW.sub (L' := []) [] rfl ?_
            exact j_Fund_readFrom_57 ih hK μ18
def J_Fund_readFrom_112 (μ : ZMem) : Option ZRes := some (.inr (some (zI 1)), μ)
set_option maxRecDepth 100000 in
theorem j_Fund_readFrom_112 (μ : ZMem) : AW cf_Fund_readFrom S_Fund3.length S_Fund3 S_Fund3 112 [] [] μ 0 0 (J_Fund_readFrom_112 μ) := by
  unfold J_Fund_readFrom_112
  refine AW.iconst (n := 1) (by decide +kernel) (?_ : AW _ _ _ _ 113 _ _ _ _ _ _)
  refine AW.goto (off := 4) (tgt := 117) (by decide +kernel) (by decide) ?_
  exact AW.retb1 (by decide +kernel) rfl (by decide) (by decide) (by decide)
def F_Fund_readFrom (μ : ZMem) : Option ZRes := zCm [0, 1, 2, 3] μ (F_Fund_clear  (zVw [0, 1, 2, 3] μ)) (zkV (fun μ1 => zCm [4, 5] μ1 (F_Text_takeWord 7 (zVw [4, 5] μ1)) (zkI (fun x4 μ3 => if w32 x4 = 0 then (zCm [4, 5] μ3 (F_Text_refuseNext  (zVw [4, 5] μ3)) (zkI (fun x6 μ5 => if x6 = 0 ∨ x6 = 1 then some (.inr (some (zI x6)), μ5) else none)) zX0) else (zC (F_Fund_readTerms  μ3) (zkI (fun x8 μ7 => if w32 x8 = 0 then (some (.inr (some (zI 0)), μ7)) else (L_Fund_readFrom_30 (fun μ20 => zCm [4, 5] μ20 (F_Text_isThrough  (zVw [4, 5] μ20)) (zkI (fun x22 μ21 => if w32 x22 = 0 then (zCm [4, 5] μ21 (F_Text_takeSemicolon  (zVw [4, 5] μ21)) (zkI (fun x24 μ23 => zCm [4, 5] μ23 (F_Text_refuseNext  (zVw [4, 5] μ23)) (zkI (fun x26 μ25 => if x26 = 0 ∨ x26 = 1 then some (.inr (some (zI x26)), μ25) else none)) zX0)) zX0) else (if 0 < w32 (μ21 0 3) then (J_Fund_readFrom_112 μ21) else (zCm [4, 5] μ21 (F_Text_refuseNext  (zVw [4, 5] μ21)) (zkI (fun x28 μ27 => if w32 x28 = 0 then (some (.inr (some (zI 0)), μ27)) else (J_Fund_readFrom_112 μ27))) zX0)))) zX0) zN 1 μ7))) zX0))) zX0)) zX0
set_option maxRecDepth 100000 in
theorem w_Fund_readFrom (μ : ZMem) : AW cf_Fund_readFrom S_Fund3.length S_Fund3 S_Fund3 0 [(0, zR (some 0)), (1, zR (some 4))] [] μ 0 0 (F_Fund_readFrom μ) := by
  unfold F_Fund_readFrom
  refine AW.aload_n (i := 0) (a := 0) (by decide +kernel) rfl (?_ : AW _ _ _ _ 1 _ _ _ _ _ _)
  refine AW.callVm (g := cf_Fund_clear) (Sg := S_Fund) (pl := [0, 1, 2, 3]) (av := []) (b0 := 0) (ci := 1) (idx := 44) (n := 0) (st := []) (by decide +kernel) (fun l hl r hr => c_Fund_clear l hl  _ r hr) sb_10 rfl cal_Fund_clear rfl (zw4 zm_X1_44 zi_yX1_clear zs_yX1_clear zn_X1) rfl rfl ⟨by decide, by decide, by decide, by decide⟩ (Nat.le_of_ble_eq_true rfl) (Or.inl rfl) (fun v μ1 => AW.rV (?_ : AW _ _ _ _ 4 _ _ _ _ _ _) v)
  refine AW.aload_n (i := 1) (a := 4) (by decide +kernel) rfl (?_ : AW _ _ _ _ 5 _ _ _ _ _ _)
  refine AW.ldcs (idx := 47) (tx := "fund") (j := 7) (q := 1000007) (by decide +kernel) (by decide +kernel) rfl (?_ : AW _ _ _ _ 7 _ _ _ _ _ _)
  refine AW.callVm (g := cf_Text_takeWord) (Sg := S_Text) (pl := [4, 5]) (av := [zR (some (zSB + 7))]) (b0 := 0) (ci := 6) (idx := 49) (n := 1) (st := []) (by decide +kernel) (fun l hl r hr => c_Text_takeWord l hl 7 _ r hr) sb_11 rfl cal_Text_takeWord rfl (zw4 zm_X1_49 zi_yX6_takeWord zs_yX6_takeWord zn_X6) rfl rfl ⟨by decide, by decide, by decide, by decide⟩ (Nat.le_of_ble_eq_true rfl) (Or.inl rfl) (fun v μ3 => AW.rI (fun x4 => (?_ : AW _ _ _ _ 10 _ _ _ _ _ _)) v)
  refine AW.if_ne (off := 8) (tgt := 18) (by decide +kernel) (by decide) (fun _ => ?_) (fun _ => ?_)
  · refine AW.aload_n (i := 1) (a := 4) (by decide +kernel) rfl (?_ : AW _ _ _ _ 14 _ _ _ _ _ _)
    refine AW.callVm (g := cf_Text_refuseNext) (Sg := S_Text) (pl := [4, 5]) (av := []) (b0 := 0) (ci := 6) (idx := 55) (n := 0) (st := []) (by decide +kernel) (fun l hl r hr => c_Text_refuseNext l hl  _ r hr) sb_11 rfl cal_Text_refuseNext rfl (zw4 zm_X1_55 zi_yX6_refuseNext zs_yX6_refuseNext zn_X6) rfl rfl ⟨by decide, by decide, by decide, by decide⟩ (Nat.le_of_ble_eq_true rfl) (Or.inl rfl) (fun v μ5 => AW.rI (fun x6 => (?_ : AW _ _ _ _ 17 _ _ _ _ _ _)) v)
    exact AW.retb (by decide +kernel) rfl (by decide) (by decide)
  · refine AW.aload_n (i := 0) (a := 0) (by decide +kernel) rfl (?_ : AW _ _ _ _ 19 _ _ _ _ _ _)
    refine AW.aload_n (i := 1) (a := 4) (by decide +kernel) rfl (?_ : AW _ _ _ _ 20 _ _ _ _ _ _)
    refine AW.callVw (g := cf_Fund_readTerms) (av := [zR (some 4)]) (b0 := 0) (ci := 1) (idx := 59) (n := 1) (st := []) (by decide +kernel) (fun l hl r hr => c_Fund_readTerms l hl  _ r hr) S_Fund3_wf rfl cal_Fund_readTerms rfl (zw4 zm_X1_59 zi_yX1_readTerms zs_yX1_readTerms zn_X1) rfl rfl ⟨by decide, by decide, by decide, by decide⟩ (Nat.le_of_ble_eq_true rfl) (Or.inl rfl) (fun v μ7 => AW.kI (fun x8 => (?_ : AW _ _ _ _ 23 _ _ _ _ _ _)) v)
    refine AW.if_ne (off := 5) (tgt := 28) (by decide +kernel) (by decide) (fun _ => ?_) (fun _ => ?_)
    · refine AW.iconst (n := 0) (by decide +kernel) (?_ : AW _ _ _ _ 27 _ _ _ _ _ _)
      exact AW.retb1 (by decide +kernel) rfl (by decide) (by decide) (by decide)
    · refine AW.iconst (n := 1) (by decide +kernel) (?_ : AW _ _ _ _ 29 _ _ _ _ _ _)
      refine AW.istore_n' (i := 2) (L' := [(2, zI 1), (0, zR (some 0)), (1, zR (some 4))]) (by decide +kernel) (by decide) rfl (?_ : AW _ _ _ _ 30 _ _ _ _ _ _)
      refine AW.sub (L' := [(0, zR (some 0)), (1, zR (some 4)), (2, zI 1)]) [1, 2, 0] rfl ?_
      refine l_Fund_readFrom_30 (fun μ20 => ?_) zN _ _
      refine AW.aload_n (i := 1) (a := 4) (by decide +kernel) rfl (?_ : AW _ _ _ _ 92 _ _ _ _ _ _)
      refine AW.callVm (g := cf_Text_isThrough) (Sg := S_Text) (pl := [4, 5]) (av := []) (b0 := 0) (ci := 6) (idx := 63) (n := 0) (st := []) (by decide +kernel) (fun l hl r hr => c_Text_isThrough l hl  _ r hr) sb_11 rfl cal_Text_isThrough rfl (zw4 zm_X1_63 zi_yX6_isThrough zs_yX6_isThrough zn_X6) rfl rfl ⟨by decide, by decide, by decide, by decide⟩ (Nat.le_of_ble_eq_true rfl) (Or.inl rfl) (fun v μ21 => AW.rI (fun x22 => (?_ : AW _ _ _ _ 95 _ _ _ _ _ _)) v)
      refine AW.if_eq (off := 23) (tgt := 118) (by decide +kernel) (by decide) (fun _ => ?_) (fun _ => ?_)
      · refine AW.aload_n (i := 1) (a := 4) (by decide +kernel) rfl (?_ : AW _ _ _ _ 119 _ _ _ _ _ _)
        refine AW.callVm (g := cf_Text_takeSemicolon) (Sg := S_Text) (pl := [4, 5]) (av := []) (b0 := 0) (ci := 6) (idx := 66) (n := 0) (st := []) (by decide +kernel) (fun l hl r hr => c_Text_takeSemicolon l hl  _ r hr) sb_11 rfl cal_Text_takeSemicolon rfl (zw4 zm_X1_66 zi_yX6_takeSemicolon zs_yX6_takeSemicolon zn_X6) rfl rfl ⟨by decide, by decide, by decide, by decide⟩ (Nat.le_of_ble_eq_true rfl) (Or.inl rfl) (fun v μ23 => AW.rI (fun x24 => (?_ : AW _ _ _ _ 122 _ _ _ _ _ _)) v)
        refine AW.pop (by decide +kernel) rfl (?_ : AW _ _ _ _ 123 _ _ _ _ _ _)
        refine AW.aload_n (i := 1) (a := 4) (by decide +kernel) rfl (?_ : AW _ _ _ _ 124 _ _ _ _ _ _)
        refine AW.callVm (g := cf_Text_refuseNext) (Sg := S_Text) (pl := [4, 5]) (av := []) (b0 := 0) (ci := 6) (idx := 55) (n := 0) (st := []) (by decide +kernel) (fun l hl r hr => c_Text_refuseNext l hl  _ r hr) sb_11 rfl cal_Text_refuseNext rfl (zw4 zm_X1_55 zi_yX6_refuseNext zs_yX6_refuseNext zn_X6) rfl rfl ⟨by decide, by decide, by decide, by decide⟩ (Nat.le_of_ble_eq_true rfl) (Or.inl rfl) (fun v μ25 => AW.rI (fun x26 => (?_ : AW _ _ _ _ 127 _ _ _ _ _ _)) v)
        exact AW.retb (by decide +kernel) rfl (by decide) (by decide)
      · refine AW.aload_n (i := 0) (a := 0) (by decide +kernel) rfl (?_ : AW _ _ _ _ 99 _ _ _ _ _ _)
        refine AW.getI (idx := 27) (ci := 1) (k := 3) (r := 0) (by decide +kernel) rfl rfl rfl (?_ : AW _ _ _ _ 102 _ _ _ _ _ _)
        refine AW.if_gt (off := 10) (tgt := 112) (by decide +kernel) (by decide) (fun _ => ?_) (fun _ => ?_)
        · refine AW.sub (L' := []) [] rfl ?_
          exact j_Fund_readFrom_112 μ21
        · refine AW.aload_n (i := 1) (a := 4) (by decide +kernel) rfl (?_ : AW _ _ _ _ 106 _ _ _ _ _ _)
          refine AW.callVm (g := cf_Text_refuseNext) (Sg := S_Text) (pl := [4, 5]) (av := []) (b0 := 0) (ci := 6) (idx := 55) (n := 0) (st := []) (by decide +kernel) (fun l hl r hr => c_Text_refuseNext l hl  _ r hr) sb_11 rfl cal_Text_refuseNext rfl (zw4 zm_X1_55 zi_yX6_refuseNext zs_yX6_refuseNext zn_X6) rfl rfl ⟨by decide, by decide, by decide, by decide⟩ (Nat.le_of_ble_eq_true rfl) (Or.inl rfl) (fun v μ27 => AW.rI (fun x28 => (?_ : AW _ _ _ _ 109 _ _ _ _ _ _)) v)
          refine AW.if_eq (off := 7) (tgt := 116) (by decide +kernel) (by decide) (fun _ => ?_) (fun _ => ?_)
          · refine AW.iconst (n := 0) (by decide +kernel) (?_ : AW _ _ _ _ 117 _ _ _ _ _ _)
            exact AW.retb1 (by decide +kernel) rfl (by decide) (by decide) (by decide)
          · refine AW.sub (L' := []) [] rfl ?_
            exact j_Fund_readFrom_112 μ27
theorem c_Fund_readFrom (l : Launch) (hl : l.stackTraces = false) (μ : ZMem) (r : ZRes) (h : F_Fund_readFrom μ = some r) : ZC l cf_Fund_readFrom S_Fund3 S_Fund3 [zR (some 0), zR (some 4)] μ r := ZC.of hl (by decide +kernel) rfl rfl zft_X1_ok (Nat.le_of_ble_eq_true rfl) h (w_Fund_readFrom μ)
