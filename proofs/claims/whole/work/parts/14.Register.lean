def S_Register : List ZSh := [.inl (4, [(2, some 1), (2, some 2), (2, some 3), (2, some 4), (2, some 5), (2, some 6), (2, some 7), (2, some 8), (0, none), (0, none), (1, none)]), .inr (0, 6, []), .inr (0, 6, []), .inr (0, 6, []), .inr (1, 6, []), .inr (0, 6, []), .inr (1, 6, []), .inr (1, 6, []), .inr (1, 6, []), .inl (1, [(2, some 10), (2, some 11), (2, some 12), (0, none), (0, none), (3, none)]), .inr (0, 7, []), .inr (0, 6, []), .inr (0, 6, [])]
theorem S_Register_wf : zWfS S_Register.length S_Register = true ∧ Nat.ble S_Register.length 1000 = true := ⟨by decide +kernel, rfl⟩
def S_A4 : List ZSh := [.inr (0, 6, [])]
theorem S_A4_wf : zWfS S_A4.length S_A4 = true ∧ Nat.ble S_A4.length 1000 = true := ⟨by decide +kernel, rfl⟩
/-! java/util/Arrays.fill([II)V -/
def cf_Arrays_fill_w4 : ZCf := (yJ7_fill_53178, cJ7_fill_53178, 4, none, [], 2, 0, 0, [], none)
theorem cal_Arrays_fill_w4 : zCallee cf_Arrays_fill_w4 2 := ⟨rfl, zc_yJ7_fill_53178, by decide, by decide, by decide +kernel⟩
def L_Arrays_fill_w4_5 (c1 : Int) (K : ZMem → Option ZRes) : Nat → Int → ZMem → Option ZRes
  | 0, _, _ => none
  | n + 1, v2, μ => if w32 6 ≤ w32 v2 then (K  μ) else (zWr μ 0 6 v2 c1 (fun μ1 => zLet (v2 + 1) (fun x2 => L_Arrays_fill_w4_5 c1 K n x2 μ1)))
set_option maxRecDepth 100000 in
theorem l_Arrays_fill_w4_5 {c1 : Int} {K : ZMem → Option ZRes} (hK : ∀ (μ : ZMem), AW cf_Arrays_fill_w4 S_A4.length S_A4 S_A4 20 [] [] μ 0 0 (K μ)) : ∀ (n : Nat) (v2 : Int) (μ : ZMem), AW cf_Arrays_fill_w4 S_A4.length S_A4 S_A4 5 [(0, zR (some 0)), (1, zI c1), (2, zI v2), (3, zI 6)] [] μ 0 0 (L_Arrays_fill_w4_5 c1 K n v2 μ) := by
  intro n
  induction n with
  | zero => intro v2 μ; exact AW.noth
  | succ n ih =>
    intro v2 μ
    rw [L_Arrays_fill_w4_5]
    refine AW.iload_n (i := 2) (a := v2) (by decide +kernel) rfl (?_ : AW _ _ _ _ 6 _ _ _ _ _ _)
    refine AW.iload_n (i := 3) (a := 6) (by decide +kernel) rfl (?_ : AW _ _ _ _ 7 _ _ _ _ _ _)
    refine AW.icmp_ge (off := 13) (tgt := 20) (by decide +kernel) (by decide) (fun _ => ?_) (fun _ => ?_)
    · refine AW.sub (L' := []) [] rfl ?_
      exact hK  μ
    · refine AW.aload_n (i := 0) (a := 0) (by decide +kernel) rfl (?_ : AW _ _ _ _ 11 _ _ _ _ _ _)
      refine AW.iload_n (i := 2) (a := v2) (by decide +kernel) rfl (?_ : AW _ _ _ _ 12 _ _ _ _ _ _)
      refine AW.iload_n (i := 1) (a := c1) (by decide +kernel) rfl (?_ : AW _ _ _ _ 13 _ _ _ _ _ _)
      refine AW.iastL (r := 0) (by decide +kernel) rfl (fun μ1 => (?_ : AW _ _ _ _ 14 _ _ _ _ _ _))
      refine AW.iincL (i := 2) (n := 1) (a := v2) (L' := fun x2 => [(2, zI x2), (0, zR (some 0)), (1, zI c1), (3, zI 6)]) (by decide +kernel) rfl (by decide) (fun _ => rfl) (fun x2 => (?_ : AW _ _ _ _ 17 _ _ _ _ _ _))
      refine AW.goto (off := -12) (tgt := 5) (by decide +kernel) (by decide) ?_
      refine AW.sub (L' := [(0, zR (some 0)), (1, zI c1), (2, zI x2), (3, zI 6)]) [1, 2, 0, 3] rfl ?_
      exact ih x2 μ1
def F_Arrays_fill_w4 (a1 : Int) (μ : ZMem) : Option ZRes := L_Arrays_fill_w4_5 a1 (fun μ3 => some (.inr none, μ3)) zN 0 μ
set_option maxRecDepth 100000 in
theorem w_Arrays_fill_w4 (a1 : Int) (μ : ZMem) : AW cf_Arrays_fill_w4 S_A4.length S_A4 S_A4 0 [(0, zR (some 0)), (1, zI a1)] [] μ 0 0 (F_Arrays_fill_w4 a1 μ) := by
  unfold F_Arrays_fill_w4
  refine AW.iconst (n := 0) (by decide +kernel) (?_ : AW _ _ _ _ 1 _ _ _ _ _ _)
  refine AW.istore_n' (i := 2) (L' := [(2, zI 0), (0, zR (some 0)), (1, zI a1)]) (by decide +kernel) (by decide) rfl (?_ : AW _ _ _ _ 2 _ _ _ _ _ _)
  refine AW.aload_n (i := 0) (a := 0) (by decide +kernel) rfl (?_ : AW _ _ _ _ 3 _ _ _ _ _ _)
  refine AW.alen (r := 0) (by decide +kernel) rfl (by decide) (?_ : AW _ _ _ _ 4 _ _ _ _ _ _)
  refine AW.istore_n' (i := 3) (L' := [(3, zI 6), (2, zI 0), (0, zR (some 0)), (1, zI a1)]) (by decide +kernel) (by decide) rfl (?_ : AW _ _ _ _ 5 _ _ _ _ _ _)
  refine AW.sub (L' := [(0, zR (some 0)), (1, zI a1), (2, zI 0), (3, zI 6)]) [2, 3, 1, 0] rfl ?_
  refine l_Arrays_fill_w4_5 (fun μ3 => ?_) zN _ _
  exact AW.retv (by decide +kernel) rfl (by decide) (by decide)
theorem c_Arrays_fill_w4 (l : Launch) (hl : l.stackTraces = false) (a1 : Int) (μ : ZMem) (r : ZRes) (h : F_Arrays_fill_w4 a1 μ = some r) : ZC l cf_Arrays_fill_w4 S_A4 S_A4 [zR (some 0), zI a1] μ r := ZC.of hl (by decide +kernel) rfl rfl (fun _ h => absurd h List.not_mem_nil) (Nat.le_of_ble_eq_true rfl) h (w_Arrays_fill_w4 a1 μ)
theorem sb_3 : zSub S_Register [3] S_A4 := ⟨rfl, by decide +kernel, by decide +kernel, rfl⟩
def S_A5 : List ZSh := [.inr (1, 6, [])]
theorem S_A5_wf : zWfS S_A5.length S_A5 = true ∧ Nat.ble S_A5.length 1000 = true := ⟨by decide +kernel, rfl⟩
/-! java/util/Arrays.fill([JJ)V -/
def cf_Arrays_fill_w5 : ZCf := (yJ7_fill_d0a16, cJ7_fill_d0a16, 5, none, [], 2, 0, 0, [], none)
theorem cal_Arrays_fill_w5 : zCallee cf_Arrays_fill_w5 2 := ⟨rfl, zc_yJ7_fill_d0a16, by decide, by decide, by decide +kernel⟩
def L_Arrays_fill_w5_6 (c1 : Int) (K : ZMem → Option ZRes) : Nat → Int → ZMem → Option ZRes
  | 0, _, _ => none
  | n + 1, v3, μ => if w32 6 ≤ w32 v3 then (K  μ) else (zWr μ 0 6 v3 c1 (fun μ1 => zLet (v3 + 1) (fun x2 => L_Arrays_fill_w5_6 c1 K n x2 μ1)))
set_option maxRecDepth 100000 in
theorem l_Arrays_fill_w5_6 {c1 : Int} {K : ZMem → Option ZRes} (hK : ∀ (μ : ZMem), AW cf_Arrays_fill_w5 S_A5.length S_A5 S_A5 22 [] [] μ 0 0 (K μ)) : ∀ (n : Nat) (v3 : Int) (μ : ZMem), AW cf_Arrays_fill_w5 S_A5.length S_A5 S_A5 6 [(0, zR (some 0)), (1, zJ c1), (3, zI v3), (4, zI 6)] [] μ 0 0 (L_Arrays_fill_w5_6 c1 K n v3 μ) := by
  intro n
  induction n with
  | zero => intro v3 μ; exact AW.noth
  | succ n ih =>
    intro v3 μ
    rw [L_Arrays_fill_w5_6]
    refine AW.iload_n (i := 3) (a := v3) (by decide +kernel) rfl (?_ : AW _ _ _ _ 7 _ _ _ _ _ _)
    refine AW.iload (i := 4) (a := 6) (by decide +kernel) rfl (?_ : AW _ _ _ _ 9 _ _ _ _ _ _)
    refine AW.icmp_ge (off := 13) (tgt := 22) (by decide +kernel) (by decide) (fun _ => ?_) (fun _ => ?_)
    · refine AW.sub (L' := []) [] rfl ?_
      exact hK  μ
    · refine AW.aload_n (i := 0) (a := 0) (by decide +kernel) rfl (?_ : AW _ _ _ _ 13 _ _ _ _ _ _)
      refine AW.iload_n (i := 3) (a := v3) (by decide +kernel) rfl (?_ : AW _ _ _ _ 14 _ _ _ _ _ _)
      refine AW.lload_n (i := 1) (a := c1) (by decide +kernel) rfl (?_ : AW _ _ _ _ 15 _ _ _ _ _ _)
      refine AW.lastL (r := 0) (by decide +kernel) rfl (fun μ1 => (?_ : AW _ _ _ _ 16 _ _ _ _ _ _))
      refine AW.iincL (i := 3) (n := 1) (a := v3) (L' := fun x2 => [(3, zI x2), (0, zR (some 0)), (1, zJ c1), (4, zI 6)]) (by decide +kernel) rfl (by decide) (fun _ => rfl) (fun x2 => (?_ : AW _ _ _ _ 19 _ _ _ _ _ _))
      refine AW.goto (off := -13) (tgt := 6) (by decide +kernel) (by decide) ?_
      refine AW.sub (L' := [(0, zR (some 0)), (1, zJ c1), (3, zI x2), (4, zI 6)]) [1, 2, 0, 3] rfl ?_
      exact ih x2 μ1
def F_Arrays_fill_w5 (a1 : Int) (μ : ZMem) : Option ZRes := L_Arrays_fill_w5_6 a1 (fun μ3 => some (.inr none, μ3)) zN 0 μ
set_option maxRecDepth 100000 in
theorem w_Arrays_fill_w5 (a1 : Int) (μ : ZMem) : AW cf_Arrays_fill_w5 S_A5.length S_A5 S_A5 0 [(0, zR (some 0)), (1, zJ a1)] [] μ 0 0 (F_Arrays_fill_w5 a1 μ) := by
  unfold F_Arrays_fill_w5
  refine AW.iconst (n := 0) (by decide +kernel) (?_ : AW _ _ _ _ 1 _ _ _ _ _ _)
  refine AW.istore_n' (i := 3) (L' := [(3, zI 0), (0, zR (some 0)), (1, zJ a1)]) (by decide +kernel) (by decide) rfl (?_ : AW _ _ _ _ 2 _ _ _ _ _ _)
  refine AW.aload_n (i := 0) (a := 0) (by decide +kernel) rfl (?_ : AW _ _ _ _ 3 _ _ _ _ _ _)
  refine AW.alen (r := 0) (by decide +kernel) rfl (by decide) (?_ : AW _ _ _ _ 4 _ _ _ _ _ _)
  refine AW.istore' (i := 4) (L' := [(4, zI 6), (3, zI 0), (0, zR (some 0)), (1, zJ a1)]) (by decide +kernel) (by decide) rfl (?_ : AW _ _ _ _ 6 _ _ _ _ _ _)
  refine AW.sub (L' := [(0, zR (some 0)), (1, zJ a1), (3, zI 0), (4, zI 6)]) [2, 3, 1, 0] rfl ?_
  refine l_Arrays_fill_w5_6 (fun μ3 => ?_) zN _ _
  exact AW.retv (by decide +kernel) rfl (by decide) (by decide)
theorem c_Arrays_fill_w5 (l : Launch) (hl : l.stackTraces = false) (a1 : Int) (μ : ZMem) (r : ZRes) (h : F_Arrays_fill_w5 a1 μ = some r) : ZC l cf_Arrays_fill_w5 S_A5 S_A5 [zR (some 0), zJ a1] μ r := ZC.of hl (by decide +kernel) rfl rfl (fun _ h => absurd h List.not_mem_nil) (Nat.le_of_ble_eq_true rfl) h (w_Arrays_fill_w5 a1 μ)
theorem sb_4 : zSub S_Register [4] S_A5 := ⟨rfl, by decide +kernel, by decide +kernel, rfl⟩
/-! WeirLedger$Register.open(LWeirLedger$Fund;)V -/
def cf_Register_open : ZCf := (yX4_open, cX4_open, 2, none, [], 3, 0, 0, zft_X4, none)
theorem cal_Register_open : zCallee cf_Register_open 1 := ⟨rfl, zc_yX4_open, by decide, by decide, by decide +kernel⟩
def F_Register_open (μ : ZMem) : Option ZRes := zLet (zCopy μ 11 1 6) (fun μ1 => zLet (zCopy μ1 11 2 6) (fun μ2 => zLet (zCopy μ2 12 5 6) (fun μ3 => zCm [3] μ3 (F_Arrays_fill_w4 0 (zVw [3] μ3)) (zkV (fun μ4 => zCm [4] μ4 (F_Arrays_fill_w5 0 (zVw [4] μ4)) (zkV (fun μ6 => zLet (zUp μ6 0 8 (μ6 9 3)) (fun μ8 => zLet (zUp μ8 0 9 0) (fun μ9 => zLet (zUp μ9 0 10 0) (fun μ10 => some (.inr none, μ10)))))) zX0)) zX0)))
set_option maxRecDepth 100000 in
theorem w_Register_open (μ : ZMem) : AW cf_Register_open S_Register.length S_Register S_Register 0 [(0, zR (some 0)), (1, zR (some 9))] [] μ 0 0 (F_Register_open μ) := by
  unfold F_Register_open
  refine AW.aload_n (i := 1) (a := 9) (by decide +kernel) rfl (?_ : AW _ _ _ _ 1 _ _ _ _ _ _)
  refine AW.getR (idx := 37) (ci := 1) (k := 1) (r := 9) (by decide +kernel) rfl rfl rfl (?_ : AW _ _ _ _ 4 _ _ _ _ _ _)
  refine AW.iconst (n := 0) (by decide +kernel) (?_ : AW _ _ _ _ 5 _ _ _ _ _ _)
  refine AW.aload_n (i := 0) (a := 0) (by decide +kernel) rfl (?_ : AW _ _ _ _ 6 _ _ _ _ _ _)
  refine AW.getR (idx := 9) (ci := 4) (k := 0) (r := 0) (by decide +kernel) rfl rfl rfl (?_ : AW _ _ _ _ 9 _ _ _ _ _ _)
  refine AW.iconst (n := 0) (by decide +kernel) (?_ : AW _ _ _ _ 10 _ _ _ _ _ _)
  refine AW.bipush (n := 6) (by decide +kernel) (by decide +kernel) (?_ : AW _ _ _ _ 12 _ _ _ _ _ _)
  refine AW.copyI (idx := 40) (r0 := 11) (r1 := 1) (n := 6) (by decide +kernel) zm_X4_40 rfl rfl (by decide) (by decide) rfl (fun μ1 => (?_ : AW _ _ _ _ 15 _ _ _ _ _ _))
  refine AW.aload_n (i := 1) (a := 9) (by decide +kernel) rfl (?_ : AW _ _ _ _ 16 _ _ _ _ _ _)
  refine AW.getR (idx := 37) (ci := 1) (k := 1) (r := 9) (by decide +kernel) rfl rfl rfl (?_ : AW _ _ _ _ 19 _ _ _ _ _ _)
  refine AW.iconst (n := 0) (by decide +kernel) (?_ : AW _ _ _ _ 20 _ _ _ _ _ _)
  refine AW.aload_n (i := 0) (a := 0) (by decide +kernel) rfl (?_ : AW _ _ _ _ 21 _ _ _ _ _ _)
  refine AW.getR (idx := 15) (ci := 4) (k := 1) (r := 0) (by decide +kernel) rfl rfl rfl (?_ : AW _ _ _ _ 24 _ _ _ _ _ _)
  refine AW.iconst (n := 0) (by decide +kernel) (?_ : AW _ _ _ _ 25 _ _ _ _ _ _)
  refine AW.bipush (n := 6) (by decide +kernel) (by decide +kernel) (?_ : AW _ _ _ _ 27 _ _ _ _ _ _)
  refine AW.copyI (idx := 40) (r0 := 11) (r1 := 2) (n := 6) (by decide +kernel) zm_X4_40 rfl rfl (by decide) (by decide) rfl (fun μ2 => (?_ : AW _ _ _ _ 30 _ _ _ _ _ _))
  refine AW.aload_n (i := 1) (a := 9) (by decide +kernel) rfl (?_ : AW _ _ _ _ 31 _ _ _ _ _ _)
  refine AW.getR (idx := 46) (ci := 1) (k := 2) (r := 9) (by decide +kernel) rfl rfl rfl (?_ : AW _ _ _ _ 34 _ _ _ _ _ _)
  refine AW.iconst (n := 0) (by decide +kernel) (?_ : AW _ _ _ _ 35 _ _ _ _ _ _)
  refine AW.aload_n (i := 0) (a := 0) (by decide +kernel) rfl (?_ : AW _ _ _ _ 36 _ _ _ _ _ _)
  refine AW.getR (idx := 25) (ci := 4) (k := 4) (r := 0) (by decide +kernel) rfl rfl rfl (?_ : AW _ _ _ _ 39 _ _ _ _ _ _)
  refine AW.iconst (n := 0) (by decide +kernel) (?_ : AW _ _ _ _ 40 _ _ _ _ _ _)
  refine AW.bipush (n := 6) (by decide +kernel) (by decide +kernel) (?_ : AW _ _ _ _ 42 _ _ _ _ _ _)
  refine AW.copyI (idx := 40) (r0 := 12) (r1 := 5) (n := 6) (by decide +kernel) zm_X4_40 rfl rfl (by decide) (by decide) rfl (fun μ3 => (?_ : AW _ _ _ _ 45 _ _ _ _ _ _))
  refine AW.aload_n (i := 0) (a := 0) (by decide +kernel) rfl (?_ : AW _ _ _ _ 46 _ _ _ _ _ _)
  refine AW.getR (idx := 18) (ci := 4) (k := 2) (r := 0) (by decide +kernel) rfl rfl rfl (?_ : AW _ _ _ _ 49 _ _ _ _ _ _)
  refine AW.iconst (n := 0) (by decide +kernel) (?_ : AW _ _ _ _ 50 _ _ _ _ _ _)
  refine AW.callSm (g := cf_Arrays_fill_w4) (Sg := S_A4) (pl := [3]) (av := [zR (some 0), zI 0]) (idx := 47) (n := 2) (st := []) (by decide +kernel) (fun l hl r hr => c_Arrays_fill_w4 l hl 0 _ r hr) sb_3 rfl cal_Arrays_fill_w4 rfl (zw3 zm_X4_47 zt_yJ7_fill_53178 zn_J7) ⟨by decide, by decide, by decide, by decide⟩ (Nat.le_of_ble_eq_true rfl) (Or.inl rfl) (fun v μ4 => AW.rV (?_ : AW _ _ _ _ 53 _ _ _ _ _ _) v)
  refine AW.aload_n (i := 0) (a := 0) (by decide +kernel) rfl (?_ : AW _ _ _ _ 54 _ _ _ _ _ _)
  refine AW.getR (idx := 21) (ci := 4) (k := 3) (r := 0) (by decide +kernel) rfl rfl rfl (?_ : AW _ _ _ _ 57 _ _ _ _ _ _)
  refine AW.lconst0 (by decide +kernel) (?_ : AW _ _ _ _ 58 _ _ _ _ _ _)
  refine AW.callSm (g := cf_Arrays_fill_w5) (Sg := S_A5) (pl := [4]) (av := [zR (some 0), zJ 0]) (idx := 53) (n := 2) (st := []) (by decide +kernel) (fun l hl r hr => c_Arrays_fill_w5 l hl 0 _ r hr) sb_4 rfl cal_Arrays_fill_w5 rfl (zw3 zm_X4_53 zt_yJ7_fill_d0a16 zn_J7) ⟨by decide, by decide, by decide, by decide⟩ (Nat.le_of_ble_eq_true rfl) (Or.inl rfl) (fun v μ6 => AW.rV (?_ : AW _ _ _ _ 61 _ _ _ _ _ _) v)
  refine AW.aload_n (i := 0) (a := 0) (by decide +kernel) rfl (?_ : AW _ _ _ _ 62 _ _ _ _ _ _)
  refine AW.aload_n (i := 1) (a := 9) (by decide +kernel) rfl (?_ : AW _ _ _ _ 63 _ _ _ _ _ _)
  refine AW.getI (idx := 56) (ci := 1) (k := 3) (r := 9) (by decide +kernel) rfl rfl rfl (?_ : AW _ _ _ _ 66 _ _ _ _ _ _)
  refine AW.putiL (idx := 60) (ci := 4) (k := 8) (r := 0) (by decide +kernel) rfl rfl rfl (fun μ8 => (?_ : AW _ _ _ _ 69 _ _ _ _ _ _))
  refine AW.aload_n (i := 0) (a := 0) (by decide +kernel) rfl (?_ : AW _ _ _ _ 70 _ _ _ _ _ _)
  refine AW.iconst (n := 0) (by decide +kernel) (?_ : AW _ _ _ _ 71 _ _ _ _ _ _)
  refine AW.putiL (idx := 63) (ci := 4) (k := 9) (r := 0) (by decide +kernel) rfl rfl rfl (fun μ9 => (?_ : AW _ _ _ _ 74 _ _ _ _ _ _))
  refine AW.aload_n (i := 0) (a := 0) (by decide +kernel) rfl (?_ : AW _ _ _ _ 75 _ _ _ _ _ _)
  refine AW.lconst0 (by decide +kernel) (?_ : AW _ _ _ _ 76 _ _ _ _ _ _)
  refine AW.putlL (idx := 66) (ci := 4) (k := 10) (r := 0) (by decide +kernel) rfl rfl rfl (fun μ10 => (?_ : AW _ _ _ _ 79 _ _ _ _ _ _))
  exact AW.retv (by decide +kernel) rfl (by decide) (by decide)
theorem c_Register_open (l : Launch) (hl : l.stackTraces = false) (μ : ZMem) (r : ZRes) (h : F_Register_open μ = some r) : ZC l cf_Register_open S_Register S_Register [zR (some 0), zR (some 9)] μ r := ZC.of hl (by decide +kernel) rfl rfl zft_X4_ok (Nat.le_of_ble_eq_true rfl) h (w_Register_open μ)
def S_Register2 : List ZSh := [.inl (4, [(2, some 1), (2, some 2), (2, some 3), (2, some 4), (2, some 5), (2, some 6), (2, some 7), (2, some 8), (0, none), (0, none), (1, none)]), .inr (0, 6, []), .inr (0, 6, []), .inr (0, 6, []), .inr (1, 6, []), .inr (0, 6, []), .inr (1, 6, []), .inr (1, 6, []), .inr (1, 6, [])]
theorem S_Register2_wf : zWfS S_Register2.length S_Register2 = true ∧ Nat.ble S_Register2.length 1000 = true := ⟨by decide +kernel, rfl⟩
/-! WeirLedger$Register.hasFailed(I)Z -/
def cf_Register_hasFailed : ZCf := (yX4_hasFailed, cX4_hasFailed, 2, some .boolean, [], 2, 0, 0, zft_X4, none)
theorem cal_Register_hasFailed : zCallee cf_Register_hasFailed 1 := ⟨rfl, zc_yX4_hasFailed, by decide, by decide, by decide +kernel⟩
def F_Register_hasFailed (a1 : Int) (μ : ZMem) : Option ZRes := if w32 (zand (zshr (μ 0 9) a1) 1) = w32 1 then (some (.inr (some (zI 1)), μ)) else (some (.inr (some (zI 0)), μ))
set_option maxRecDepth 100000 in
theorem w_Register_hasFailed (a1 : Int) (μ : ZMem) : AW cf_Register_hasFailed S_Register2.length S_Register2 S_Register2 0 [(0, zR (some 0)), (1, zI a1)] [] μ 0 0 (F_Register_hasFailed a1 μ) := by
  unfold F_Register_hasFailed
  refine AW.aload_n (i := 0) (a := 0) (by decide +kernel) rfl (?_ : AW _ _ _ _ 1 _ _ _ _ _ _)
  refine AW.getI (idx := 63) (ci := 4) (k := 9) (r := 0) (by decide +kernel) rfl rfl rfl (?_ : AW _ _ _ _ 4 _ _ _ _ _ _)
  refine AW.iload_n (i := 1) (a := a1) (by decide +kernel) rfl (?_ : AW _ _ _ _ 5 _ _ _ _ _ _)
  refine AW.ishr (by decide +kernel) (?_ : AW _ _ _ _ 6 _ _ _ _ _ _)
  refine AW.iconst (n := 1) (by decide +kernel) (?_ : AW _ _ _ _ 7 _ _ _ _ _ _)
  refine AW.iand (by decide +kernel) (?_ : AW _ _ _ _ 8 _ _ _ _ _ _)
  refine AW.iconst (n := 1) (by decide +kernel) (?_ : AW _ _ _ _ 9 _ _ _ _ _ _)
  refine AW.icmp_ne (off := 7) (tgt := 16) (by decide +kernel) (by decide) (fun _ => ?_) (fun _ => ?_)
  · refine AW.iconst (n := 1) (by decide +kernel) (?_ : AW _ _ _ _ 13 _ _ _ _ _ _)
    refine AW.goto (off := 4) (tgt := 17) (by decide +kernel) (by decide) ?_
    exact AW.retb1 (by decide +kernel) rfl (by decide) (by decide) (by decide)
  · refine AW.iconst (n := 0) (by decide +kernel) (?_ : AW _ _ _ _ 17 _ _ _ _ _ _)
    exact AW.retb1 (by decide +kernel) rfl (by decide) (by decide) (by decide)
theorem c_Register_hasFailed (l : Launch) (hl : l.stackTraces = false) (a1 : Int) (μ : ZMem) (r : ZRes) (h : F_Register_hasFailed a1 μ = some r) : ZC l cf_Register_hasFailed S_Register2 S_Register2 [zR (some 0), zI a1] μ r := ZC.of hl (by decide +kernel) rfl rfl zft_X4_ok (Nat.le_of_ble_eq_true rfl) h (w_Register_hasFailed a1 μ)
/-! WeirLedger$Register.isExcused(II)Z -/
def cf_Register_isExcused : ZCf := (yX4_isExcused, cX4_isExcused, 3, some .boolean, [], 2, 0, 0, zft_X4, none)
theorem cal_Register_isExcused : zCallee cf_Register_isExcused 2 := ⟨rfl, zc_yX4_isExcused, by decide, by decide, by decide +kernel⟩
def F_Register_isExcused (a1 : Int) (a2 : Int) (μ : ZMem) : Option ZRes := if w32 a2 = w32 (-1) then (some (.inr (some (zI 0)), μ)) else (zRd μ 5 6 a2 (fun x1 => if w32 (zand (zshr x1 a1) 1) = w32 1 then (some (.inr (some (zI 1)), μ)) else (some (.inr (some (zI 0)), μ))))
set_option maxRecDepth 100000 in
theorem w_Register_isExcused (a1 : Int) (a2 : Int) (μ : ZMem) : AW cf_Register_isExcused S_Register2.length S_Register2 S_Register2 0 [(0, zR (some 0)), (1, zI a1), (2, zI a2)] [] μ 0 0 (F_Register_isExcused a1 a2 μ) := by
  unfold F_Register_isExcused
  refine AW.iload_n (i := 2) (a := a2) (by decide +kernel) rfl (?_ : AW _ _ _ _ 1 _ _ _ _ _ _)
  refine AW.iconst (n := -1) (by decide +kernel) (?_ : AW _ _ _ _ 2 _ _ _ _ _ _)
  refine AW.icmp_eq (off := 21) (tgt := 23) (by decide +kernel) (by decide) (fun _ => ?_) (fun _ => ?_)
  · refine AW.iconst (n := 0) (by decide +kernel) (?_ : AW _ _ _ _ 24 _ _ _ _ _ _)
    exact AW.retb1 (by decide +kernel) rfl (by decide) (by decide) (by decide)
  · refine AW.aload_n (i := 0) (a := 0) (by decide +kernel) rfl (?_ : AW _ _ _ _ 6 _ _ _ _ _ _)
    refine AW.getR (idx := 25) (ci := 4) (k := 4) (r := 0) (by decide +kernel) rfl rfl rfl (?_ : AW _ _ _ _ 9 _ _ _ _ _ _)
    refine AW.iload_n (i := 2) (a := a2) (by decide +kernel) rfl (?_ : AW _ _ _ _ 10 _ _ _ _ _ _)
    refine AW.iald (r := 5) (by decide +kernel) rfl (fun x1 => (?_ : AW _ _ _ _ 11 _ _ _ _ _ _))
    refine AW.iload_n (i := 1) (a := a1) (by decide +kernel) rfl (?_ : AW _ _ _ _ 12 _ _ _ _ _ _)
    refine AW.ishr (by decide +kernel) (?_ : AW _ _ _ _ 13 _ _ _ _ _ _)
    refine AW.iconst (n := 1) (by decide +kernel) (?_ : AW _ _ _ _ 14 _ _ _ _ _ _)
    refine AW.iand (by decide +kernel) (?_ : AW _ _ _ _ 15 _ _ _ _ _ _)
    refine AW.iconst (n := 1) (by decide +kernel) (?_ : AW _ _ _ _ 16 _ _ _ _ _ _)
    refine AW.icmp_ne (off := 7) (tgt := 23) (by decide +kernel) (by decide) (fun _ => ?_) (fun _ => ?_)
    · refine AW.iconst (n := 1) (by decide +kernel) (?_ : AW _ _ _ _ 20 _ _ _ _ _ _)
      refine AW.goto (off := 4) (tgt := 24) (by decide +kernel) (by decide) ?_
      exact AW.retb1 (by decide +kernel) rfl (by decide) (by decide) (by decide)
    · refine AW.iconst (n := 0) (by decide +kernel) (?_ : AW _ _ _ _ 24 _ _ _ _ _ _)
      exact AW.retb1 (by decide +kernel) rfl (by decide) (by decide) (by decide)
theorem c_Register_isExcused (l : Launch) (hl : l.stackTraces = false) (a1 : Int) (a2 : Int) (μ : ZMem) (r : ZRes) (h : F_Register_isExcused a1 a2 μ = some r) : ZC l cf_Register_isExcused S_Register2 S_Register2 [zR (some 0), zI a1, zI a2] μ r := ZC.of hl (by decide +kernel) rfl rfl zft_X4_ok (Nat.le_of_ble_eq_true rfl) h (w_Register_isExcused a1 a2 μ)
/-! WeirLedger$Register.weightOf(I)I -/
def cf_Register_weightOf : ZCf := (yX4_weightOf, cX4_weightOf, 3, some .int, [], 2, 0, 0, zft_X4, none)
theorem cal_Register_weightOf : zCallee cf_Register_weightOf 1 := ⟨rfl, zc_yX4_weightOf, by decide, by decide, by decide +kernel⟩
def J_Register_weightOf_17 (a1 : Int) (y0 : Int) (μ : ZMem) : Option ZRes := if w32 y0 = 0 then (zRd μ 1 6 a1 (fun x1 => some (.inr (some (zI x1)), μ))) else (zRd μ 1 6 a1 (fun x2 => some (.inr (some (zI ((w32 (x2 + 1)).tdiv (w32 2)))), μ)))
set_option maxRecDepth 100000 in
theorem j_Register_weightOf_17 (a1 : Int) (y0 : Int) (μ : ZMem) : AW cf_Register_weightOf S_Register2.length S_Register2 S_Register2 17 [(0, zR (some 0)), (1, zI a1)] [zI y0] μ 0 0 (J_Register_weightOf_17 a1 y0 μ) := by
  unfold J_Register_weightOf_17
  refine AW.istore_n' (i := 2) (L' := [(2, zI y0), (0, zR (some 0)), (1, zI a1)]) (by decide +kernel) (by decide) rfl (?_ : AW _ _ _ _ 18 _ _ _ _ _ _)
  refine AW.iload_n (i := 2) (a := y0) (by decide +kernel) rfl (?_ : AW _ _ _ _ 19 _ _ _ _ _ _)
  refine AW.if_eq (off := 16) (tgt := 35) (by decide +kernel) (by decide) (fun _ => ?_) (fun _ => ?_)
  · refine AW.aload_n (i := 0) (a := 0) (by decide +kernel) rfl (?_ : AW _ _ _ _ 36 _ _ _ _ _ _)
    refine AW.getR (idx := 9) (ci := 4) (k := 0) (r := 0) (by decide +kernel) rfl rfl rfl (?_ : AW _ _ _ _ 39 _ _ _ _ _ _)
    refine AW.iload_n (i := 1) (a := a1) (by decide +kernel) rfl (?_ : AW _ _ _ _ 40 _ _ _ _ _ _)
    refine AW.iald (r := 1) (by decide +kernel) rfl (fun x1 => (?_ : AW _ _ _ _ 41 _ _ _ _ _ _))
    exact AW.reti (by decide +kernel) rfl (by decide) (by decide)
  · refine AW.aload_n (i := 0) (a := 0) (by decide +kernel) rfl (?_ : AW _ _ _ _ 23 _ _ _ _ _ _)
    refine AW.getR (idx := 9) (ci := 4) (k := 0) (r := 0) (by decide +kernel) rfl rfl rfl (?_ : AW _ _ _ _ 26 _ _ _ _ _ _)
    refine AW.iload_n (i := 1) (a := a1) (by decide +kernel) rfl (?_ : AW _ _ _ _ 27 _ _ _ _ _ _)
    refine AW.iald (r := 1) (by decide +kernel) rfl (fun x2 => (?_ : AW _ _ _ _ 28 _ _ _ _ _ _))
    refine AW.iconst (n := 1) (by decide +kernel) (?_ : AW _ _ _ _ 29 _ _ _ _ _ _)
    refine AW.iadd (by decide +kernel) (?_ : AW _ _ _ _ 30 _ _ _ _ _ _)
    refine AW.iconst (n := 2) (by decide +kernel) (?_ : AW _ _ _ _ 31 _ _ _ _ _ _)
    refine AW.idiv (by decide +kernel) (by decide +kernel) (?_ : AW _ _ _ _ 32 _ _ _ _ _ _)
    refine AW.goto (off := 9) (tgt := 41) (by decide +kernel) (by decide) ?_
    exact AW.reti (by decide +kernel) rfl (by decide) (by decide)
def F_Register_weightOf (a1 : Int) (μ : ZMem) : Option ZRes := if w32 (zand (zshr (μ 0 9) a1) 1) = w32 1 then (J_Register_weightOf_17 a1 1 μ) else (J_Register_weightOf_17 a1 0 μ)
set_option maxRecDepth 100000 in
theorem w_Register_weightOf (a1 : Int) (μ : ZMem) : AW cf_Register_weightOf S_Register2.length S_Register2 S_Register2 0 [(0, zR (some 0)), (1, zI a1)] [] μ 0 0 (F_Register_weightOf a1 μ) := by
  unfold F_Register_weightOf
  refine AW.aload_n (i := 0) (a := 0) (by decide +kernel) rfl (?_ : AW _ _ _ _ 1 _ _ _ _ _ _)
  refine AW.getI (idx := 63) (ci := 4) (k := 9) (r := 0) (by decide +kernel) rfl rfl rfl (?_ : AW _ _ _ _ 4 _ _ _ _ _ _)
  refine AW.iload_n (i := 1) (a := a1) (by decide +kernel) rfl (?_ : AW _ _ _ _ 5 _ _ _ _ _ _)
  refine AW.ishr (by decide +kernel) (?_ : AW _ _ _ _ 6 _ _ _ _ _ _)
  refine AW.iconst (n := 1) (by decide +kernel) (?_ : AW _ _ _ _ 7 _ _ _ _ _ _)
  refine AW.iand (by decide +kernel) (?_ : AW _ _ _ _ 8 _ _ _ _ _ _)
  refine AW.iconst (n := 1) (by decide +kernel) (?_ : AW _ _ _ _ 9 _ _ _ _ _ _)
  refine AW.icmp_ne (off := 7) (tgt := 16) (by decide +kernel) (by decide) (fun _ => ?_) (fun _ => ?_)
  · refine AW.iconst (n := 1) (by decide +kernel) (?_ : AW _ _ _ _ 13 _ _ _ _ _ _)
    refine AW.goto (off := 4) (tgt := 17) (by decide +kernel) (by decide) ?_
    exact j_Register_weightOf_17 a1 1 μ
  · refine AW.iconst (n := 0) (by decide +kernel) (?_ : AW _ _ _ _ 17 _ _ _ _ _ _)
    exact j_Register_weightOf_17 a1 0 μ
theorem c_Register_weightOf (l : Launch) (hl : l.stackTraces = false) (a1 : Int) (μ : ZMem) (r : ZRes) (h : F_Register_weightOf a1 μ = some r) : ZC l cf_Register_weightOf S_Register2 S_Register2 [zR (some 0), zI a1] μ r := ZC.of hl (by decide +kernel) rfl rfl zft_X4_ok (Nat.le_of_ble_eq_true rfl) h (w_Register_weightOf a1 μ)
/-! WeirLedger$Register.weighFor(I)V -/
def cf_Register_weighFor : ZCf := (yX4_weighFor, cX4_weighFor, 3, none, [], 3, 0, 0, zft_X4, none)
theorem cal_Register_weighFor : zCallee cf_Register_weighFor 1 := ⟨rfl, zc_yX4_weighFor, by decide, by decide, by decide +kernel⟩
def J_Register_weighFor_34 (R : Int → ZMem → Option ZRes) (K : ZMem → Option ZRes) (c1 : Int) (u2 : Int) (y0 : Int) (y1 : Int) (μ : ZMem) : Option ZRes := zWr μ 6 6 y1 y0 (fun μ5 => zLet (u2 + 1) (fun x6 => R x6 μ5))
set_option maxRecDepth 100000 in
theorem j_Register_weighFor_34 {R : Int → ZMem → Option ZRes} {K : ZMem → Option ZRes} (c1 : Int) (hR : ∀ (v2 : Int) (μ : ZMem), AW cf_Register_weighFor S_Register2.length S_Register2 S_Register2 2 [(0, zR (some 0)), (1, zI c1), (2, zI v2)] [] μ 0 0 (R v2 μ)) (hK : ∀ (μ : ZMem), AW cf_Register_weighFor S_Register2.length S_Register2 S_Register2 41 [] [] μ 0 0 (K μ)) (u2 : Int) (y0 : Int) (y1 : Int) (μ : ZMem) : AW cf_Register_weighFor S_Register2.length S_Register2 S_Register2 34 [(0, zR (some 0)), (1, zI c1), (2, zI u2)] [zJ y0, zI y1, zR (some 6)] μ 0 0 (J_Register_weighFor_34 R K c1 u2 y0 y1 μ) := by
  unfold J_Register_weighFor_34
  refine AW.lastL (r := 6) (by decide +kernel) rfl (fun μ5 => (?_ : AW _ _ _ _ 35 _ _ _ _ _ _))
  refine AW.iincL (i := 2) (n := 1) (a := u2) (L' := fun x6 => [(2, zI x6), (0, zR (some 0)), (1, zI c1)]) (by decide +kernel) rfl (by decide) (fun _ => rfl) (fun x6 => (?_ : AW _ _ _ _ 38 _ _ _ _ _ _))
  refine AW.goto (off := -36) (tgt := 2) (by decide +kernel) (by decide) ?_
  refine AW.sub (L' := [(0, zR (some 0)), (1, zI c1), (2, zI x6)]) [1, 2, 0] rfl ?_
  exact hR x6 μ5
def L_Register_weighFor_2 (c1 : Int) (K : ZMem → Option ZRes) : Nat → Int → ZMem → Option ZRes
  | 0, _, _ => none
  | n + 1, v2, μ => if w32 (μ 0 8) ≤ w32 v2 then (K  μ) else (zC (F_Register_isExcused v2 c1 μ) (zkI (fun x2 μ1 => if w32 x2 = 0 then (zC (F_Register_weightOf v2 μ1) (zkI (fun x4 μ3 => J_Register_weighFor_34 (fun v2 μ => L_Register_weighFor_2 c1 K n v2 μ) K c1 v2 (w32 x4) v2 μ3)) zX0) else (J_Register_weighFor_34 (fun v2 μ => L_Register_weighFor_2 c1 K n v2 μ) K c1 v2 0 v2 μ1))) zX0)
set_option maxRecDepth 100000 in
theorem l_Register_weighFor_2 {c1 : Int} {K : ZMem → Option ZRes} (hK : ∀ (μ : ZMem), AW cf_Register_weighFor S_Register2.length S_Register2 S_Register2 41 [] [] μ 0 0 (K μ)) : ∀ (n : Nat) (v2 : Int) (μ : ZMem), AW cf_Register_weighFor S_Register2.length S_Register2 S_Register2 2 [(0, zR (some 0)), (1, zI c1), (2, zI v2)] [] μ 0 0 (L_Register_weighFor_2 c1 K n v2 μ) := by
  intro n
  induction n with
  | zero => intro v2 μ; exact AW.noth
  | succ n ih =>
    intro v2 μ
    rw [L_Register_weighFor_2]
    refine AW.iload_n (i := 2) (a := v2) (by decide +kernel) rfl (?_ : AW _ _ _ _ 3 _ _ _ _ _ _)
    refine AW.aload_n (i := 0) (a := 0) (by decide +kernel) rfl (?_ : AW _ _ _ _ 4 _ _ _ _ _ _)
    refine AW.getI (idx := 60) (ci := 4) (k := 8) (r := 0) (by decide +kernel) rfl rfl rfl (?_ : AW _ _ _ _ 7 _ _ _ _ _ _)
    refine AW.icmp_ge (off := 34) (tgt := 41) (by decide +kernel) (by decide) (fun _ => ?_) (fun _ => ?_)
    · refine AW.sub (L' := []) [] rfl ?_
      exact hK  μ
    · refine AW.aload_n (i := 0) (a := 0) (by decide +kernel) rfl (?_ : AW _ _ _ _ 11 _ _ _ _ _ _)
      refine AW.getR (idx := 28) (ci := 4) (k := 5) (r := 0) (by decide +kernel) rfl rfl rfl (?_ : AW _ _ _ _ 14 _ _ _ _ _ _)
      refine AW.iload_n (i := 2) (a := v2) (by decide +kernel) rfl (?_ : AW _ _ _ _ 15 _ _ _ _ _ _)
      refine AW.aload_n (i := 0) (a := 0) (by decide +kernel) rfl (?_ : AW _ _ _ _ 16 _ _ _ _ _ _)
      refine AW.iload_n (i := 2) (a := v2) (by decide +kernel) rfl (?_ : AW _ _ _ _ 17 _ _ _ _ _ _)
      refine AW.iload_n (i := 1) (a := c1) (by decide +kernel) rfl (?_ : AW _ _ _ _ 18 _ _ _ _ _ _)
      refine AW.callVw (g := cf_Register_isExcused) (av := [zI v2, zI c1]) (b0 := 0) (ci := 4) (idx := 70) (n := 2) (st := [zI v2, zR (some 6)]) (by decide +kernel) (fun l hl r hr => c_Register_isExcused l hl v2 c1 _ r hr) S_Register2_wf rfl cal_Register_isExcused rfl (zw4 zm_X4_70 zi_yX4_isExcused zs_yX4_isExcused zn_X4) rfl rfl ⟨by decide, by decide, by decide, by decide⟩ (Nat.le_of_ble_eq_true rfl) (Or.inl rfl) (fun v μ1 => AW.kI (fun x2 => (?_ : AW _ _ _ _ 21 _ _ _ _ _ _)) v)
      refine AW.if_eq (off := 7) (tgt := 28) (by decide +kernel) (by decide) (fun _ => ?_) (fun _ => ?_)
      · refine AW.aload_n (i := 0) (a := 0) (by decide +kernel) rfl (?_ : AW _ _ _ _ 29 _ _ _ _ _ _)
        refine AW.iload_n (i := 2) (a := v2) (by decide +kernel) rfl (?_ : AW _ _ _ _ 30 _ _ _ _ _ _)
        refine AW.callVw (g := cf_Register_weightOf) (av := [zI v2]) (b0 := 0) (ci := 4) (idx := 74) (n := 1) (st := [zI v2, zR (some 6)]) (by decide +kernel) (fun l hl r hr => c_Register_weightOf l hl v2 _ r hr) S_Register2_wf rfl cal_Register_weightOf rfl (zw4 zm_X4_74 zi_yX4_weightOf zs_yX4_weightOf zn_X4) rfl rfl ⟨by decide, by decide, by decide, by decide⟩ (Nat.le_of_ble_eq_true rfl) (Or.inl rfl) (fun v μ3 => AW.kI (fun x4 => (?_ : AW _ _ _ _ 33 _ _ _ _ _ _)) v)
        refine AW.i2l (by decide +kernel) (?_ : AW _ _ _ _ 34 _ _ _ _ _ _)
        exact j_Register_weighFor_34 c1 ih hK v2 (w32 x4) v2 μ3
      · refine AW.lconst0 (by decide +kernel) (?_ : AW _ _ _ _ 25 _ _ _ _ _ _)
        refine AW.goto (off := 9) (tgt := 34) (by decide +kernel) (by decide) ?_
        exact j_Register_weighFor_34 c1 ih hK v2 0 v2 μ1
def F_Register_weighFor (a1 : Int) (μ : ZMem) : Option ZRes := L_Register_weighFor_2 a1 (fun μ7 => some (.inr none, μ7)) zN 0 μ
set_option maxRecDepth 100000 in
theorem w_Register_weighFor (a1 : Int) (μ : ZMem) : AW cf_Register_weighFor S_Register2.length S_Register2 S_Register2 0 [(0, zR (some 0)), (1, zI a1)] [] μ 0 0 (F_Register_weighFor a1 μ) := by
  unfold F_Register_weighFor
  refine AW.iconst (n := 0) (by decide +kernel) (?_ : AW _ _ _ _ 1 _ _ _ _ _ _)
  refine AW.istore_n' (i := 2) (L' := [(2, zI 0), (0, zR (some 0)), (1, zI a1)]) (by decide +kernel) (by decide) rfl (?_ : AW _ _ _ _ 2 _ _ _ _ _ _)
  refine AW.sub (L' := [(0, zR (some 0)), (1, zI a1), (2, zI 0)]) [1, 2, 0] rfl ?_
  refine l_Register_weighFor_2 (fun μ7 => ?_) zN _ _
  exact AW.retv (by decide +kernel) rfl (by decide) (by decide)
theorem c_Register_weighFor (l : Launch) (hl : l.stackTraces = false) (a1 : Int) (μ : ZMem) (r : ZRes) (h : F_Register_weighFor a1 μ = some r) : ZC l cf_Register_weighFor S_Register2 S_Register2 [zR (some 0), zI a1] μ r := ZC.of hl (by decide +kernel) rfl rfl zft_X4_ok (Nat.le_of_ble_eq_true rfl) h (w_Register_weighFor a1 μ)
/-! WeirLedger$Register.weighUncalled(I)V -/
def cf_Register_weighUncalled : ZCf := (yX4_weighUncalled, cX4_weighUncalled, 3, none, [], 3, 0, 0, zft_X4, none)
theorem cal_Register_weighUncalled : zCallee cf_Register_weighUncalled 1 := ⟨rfl, zc_yX4_weighUncalled, by decide, by decide, by decide +kernel⟩
def J_Register_weighUncalled_35 (R : Int → ZMem → Option ZRes) (K : ZMem → Option ZRes) (c1 : Int) (u2 : Int) (y0 : Int) (y1 : Int) (μ : ZMem) : Option ZRes := zWr μ 6 6 y1 y0 (fun μ4 => zLet (u2 + 1) (fun x5 => R x5 μ4))
set_option maxRecDepth 100000 in
theorem j_Register_weighUncalled_35 {R : Int → ZMem → Option ZRes} {K : ZMem → Option ZRes} (c1 : Int) (hR : ∀ (v2 : Int) (μ : ZMem), AW cf_Register_weighUncalled S_Register2.length S_Register2 S_Register2 2 [(0, zR (some 0)), (1, zI c1), (2, zI v2)] [] μ 0 0 (R v2 μ)) (hK : ∀ (μ : ZMem), AW cf_Register_weighUncalled S_Register2.length S_Register2 S_Register2 42 [] [] μ 0 0 (K μ)) (u2 : Int) (y0 : Int) (y1 : Int) (μ : ZMem) : AW cf_Register_weighUncalled S_Register2.length S_Register2 S_Register2 35 [(0, zR (some 0)), (1, zI c1), (2, zI u2)] [zJ y0, zI y1, zR (some 6)] μ 0 0 (J_Register_weighUncalled_35 R K c1 u2 y0 y1 μ) := by
  unfold J_Register_weighUncalled_35
  refine AW.lastL (r := 6) (by decide +kernel) rfl (fun μ4 => (?_ : AW _ _ _ _ 36 _ _ _ _ _ _))
  refine AW.iincL (i := 2) (n := 1) (a := u2) (L' := fun x5 => [(2, zI x5), (0, zR (some 0)), (1, zI c1)]) (by decide +kernel) rfl (by decide) (fun _ => rfl) (fun x5 => (?_ : AW _ _ _ _ 39 _ _ _ _ _ _))
  refine AW.goto (off := -37) (tgt := 2) (by decide +kernel) (by decide) ?_
  refine AW.sub (L' := [(0, zR (some 0)), (1, zI c1), (2, zI x5)]) [1, 2, 0] rfl ?_
  exact hR x5 μ4
def L_Register_weighUncalled_2 (c1 : Int) (K : ZMem → Option ZRes) : Nat → Int → ZMem → Option ZRes
  | 0, _, _ => none
  | n + 1, v2, μ => if w32 (μ 0 8) ≤ w32 v2 then (K  μ) else (zC (F_Register_isExcused v2 c1 μ) (zkI (fun x2 μ1 => if w32 x2 = 0 then (zRd μ1 2 6 v2 (fun x3 => J_Register_weighUncalled_35 (fun v2 μ => L_Register_weighUncalled_2 c1 K n v2 μ) K c1 v2 (w32 x3) v2 μ1)) else (J_Register_weighUncalled_35 (fun v2 μ => L_Register_weighUncalled_2 c1 K n v2 μ) K c1 v2 0 v2 μ1))) zX0)
set_option maxRecDepth 100000 in
theorem l_Register_weighUncalled_2 {c1 : Int} {K : ZMem → Option ZRes} (hK : ∀ (μ : ZMem), AW cf_Register_weighUncalled S_Register2.length S_Register2 S_Register2 42 [] [] μ 0 0 (K μ)) : ∀ (n : Nat) (v2 : Int) (μ : ZMem), AW cf_Register_weighUncalled S_Register2.length S_Register2 S_Register2 2 [(0, zR (some 0)), (1, zI c1), (2, zI v2)] [] μ 0 0 (L_Register_weighUncalled_2 c1 K n v2 μ) := by
  intro n
  induction n with
  | zero => intro v2 μ; exact AW.noth
  | succ n ih =>
    intro v2 μ
    rw [L_Register_weighUncalled_2]
    refine AW.iload_n (i := 2) (a := v2) (by decide +kernel) rfl (?_ : AW _ _ _ _ 3 _ _ _ _ _ _)
    refine AW.aload_n (i := 0) (a := 0) (by decide +kernel) rfl (?_ : AW _ _ _ _ 4 _ _ _ _ _ _)
    refine AW.getI (idx := 60) (ci := 4) (k := 8) (r := 0) (by decide +kernel) rfl rfl rfl (?_ : AW _ _ _ _ 7 _ _ _ _ _ _)
    refine AW.icmp_ge (off := 35) (tgt := 42) (by decide +kernel) (by decide) (fun _ => ?_) (fun _ => ?_)
    · refine AW.sub (L' := []) [] rfl ?_
      exact hK  μ
    · refine AW.aload_n (i := 0) (a := 0) (by decide +kernel) rfl (?_ : AW _ _ _ _ 11 _ _ _ _ _ _)
      refine AW.getR (idx := 28) (ci := 4) (k := 5) (r := 0) (by decide +kernel) rfl rfl rfl (?_ : AW _ _ _ _ 14 _ _ _ _ _ _)
      refine AW.iload_n (i := 2) (a := v2) (by decide +kernel) rfl (?_ : AW _ _ _ _ 15 _ _ _ _ _ _)
      refine AW.aload_n (i := 0) (a := 0) (by decide +kernel) rfl (?_ : AW _ _ _ _ 16 _ _ _ _ _ _)
      refine AW.iload_n (i := 2) (a := v2) (by decide +kernel) rfl (?_ : AW _ _ _ _ 17 _ _ _ _ _ _)
      refine AW.iload_n (i := 1) (a := c1) (by decide +kernel) rfl (?_ : AW _ _ _ _ 18 _ _ _ _ _ _)
      refine AW.callVw (g := cf_Register_isExcused) (av := [zI v2, zI c1]) (b0 := 0) (ci := 4) (idx := 70) (n := 2) (st := [zI v2, zR (some 6)]) (by decide +kernel) (fun l hl r hr => c_Register_isExcused l hl v2 c1 _ r hr) S_Register2_wf rfl cal_Register_isExcused rfl (zw4 zm_X4_70 zi_yX4_isExcused zs_yX4_isExcused zn_X4) rfl rfl ⟨by decide, by decide, by decide, by decide⟩ (Nat.le_of_ble_eq_true rfl) (Or.inl rfl) (fun v μ1 => AW.kI (fun x2 => (?_ : AW _ _ _ _ 21 _ _ _ _ _ _)) v)
      refine AW.if_eq (off := 7) (tgt := 28) (by decide +kernel) (by decide) (fun _ => ?_) (fun _ => ?_)
      · refine AW.aload_n (i := 0) (a := 0) (by decide +kernel) rfl (?_ : AW _ _ _ _ 29 _ _ _ _ _ _)
        refine AW.getR (idx := 15) (ci := 4) (k := 1) (r := 0) (by decide +kernel) rfl rfl rfl (?_ : AW _ _ _ _ 32 _ _ _ _ _ _)
        refine AW.iload_n (i := 2) (a := v2) (by decide +kernel) rfl (?_ : AW _ _ _ _ 33 _ _ _ _ _ _)
        refine AW.iald (r := 2) (by decide +kernel) rfl (fun x3 => (?_ : AW _ _ _ _ 34 _ _ _ _ _ _))
        refine AW.i2l (by decide +kernel) (?_ : AW _ _ _ _ 35 _ _ _ _ _ _)
        exact j_Register_weighUncalled_35 c1 ih hK v2 (w32 x3) v2 μ1
      · refine AW.lconst0 (by decide +kernel) (?_ : AW _ _ _ _ 25 _ _ _ _ _ _)
        refine AW.goto (off := 10) (tgt := 35) (by decide +kernel) (by decide) ?_
        exact j_Register_weighUncalled_35 c1 ih hK v2 0 v2 μ1
def F_Register_weighUncalled (a1 : Int) (μ : ZMem) : Option ZRes := L_Register_weighUncalled_2 a1 (fun μ6 => some (.inr none, μ6)) zN 0 μ
set_option maxRecDepth 100000 in
theorem w_Register_weighUncalled (a1 : Int) (μ : ZMem) : AW cf_Register_weighUncalled S_Register2.length S_Register2 S_Register2 0 [(0, zR (some 0)), (1, zI a1)] [] μ 0 0 (F_Register_weighUncalled a1 μ) := by
  unfold F_Register_weighUncalled
  refine AW.iconst (n := 0) (by decide +kernel) (?_ : AW _ _ _ _ 1 _ _ _ _ _ _)
  refine AW.istore_n' (i := 2) (L' := [(2, zI 0), (0, zR (some 0)), (1, zI a1)]) (by decide +kernel) (by decide) rfl (?_ : AW _ _ _ _ 2 _ _ _ _ _ _)
  refine AW.sub (L' := [(0, zR (some 0)), (1, zI a1), (2, zI 0)]) [1, 2, 0] rfl ?_
  refine l_Register_weighUncalled_2 (fun μ6 => ?_) zN _ _
  exact AW.retv (by decide +kernel) rfl (by decide) (by decide)
theorem c_Register_weighUncalled (l : Launch) (hl : l.stackTraces = false) (a1 : Int) (μ : ZMem) (r : ZRes) (h : F_Register_weighUncalled a1 μ = some r) : ZC l cf_Register_weighUncalled S_Register2 S_Register2 [zR (some 0), zI a1] μ r := ZC.of hl (by decide +kernel) rfl rfl zft_X4_ok (Nat.le_of_ble_eq_true rfl) h (w_Register_weighUncalled a1 μ)
/-! WeirLedger$Register.callable(I)J -/
def cf_Register_callable : ZCf := (yX4_callable, cX4_callable, 5, some .long, [], 3, 0, 0, zft_X4, none)
theorem cal_Register_callable : zCallee cf_Register_callable 1 := ⟨rfl, zc_yX4_callable, by decide, by decide, by decide +kernel⟩
def J_Register_callable_35 (R : Int → Int → ZMem → Option ZRes) (K : Int → ZMem → Option ZRes) (c1 : Int) (u2 : Int) (u4 : Int) (μ : ZMem) : Option ZRes := zLet (u4 + 1) (fun x5 => R u2 x5 μ)
set_option maxRecDepth 100000 in
theorem j_Register_callable_35 {R : Int → Int → ZMem → Option ZRes} {K : Int → ZMem → Option ZRes} (c1 : Int) (hR : ∀ (v2 : Int) (v4 : Int) (μ : ZMem), AW cf_Register_callable S_Register2.length S_Register2 S_Register2 5 [(0, zR (some 0)), (1, zI c1), (2, zJ v2), (4, zI v4)] [] μ 0 0 (R v2 v4 μ)) (hK : ∀ (k2 : Int) (μ : ZMem), AW cf_Register_callable S_Register2.length S_Register2 S_Register2 41 [(2, zJ k2)] [] μ 0 0 (K k2 μ)) (u2 : Int) (u4 : Int) (μ : ZMem) : AW cf_Register_callable S_Register2.length S_Register2 S_Register2 35 [(0, zR (some 0)), (1, zI c1), (2, zJ u2), (4, zI u4)] [] μ 0 0 (J_Register_callable_35 R K c1 u2 u4 μ) := by
  unfold J_Register_callable_35
  refine AW.iincL (i := 4) (n := 1) (a := u4) (L' := fun x5 => [(4, zI x5), (0, zR (some 0)), (1, zI c1), (2, zJ u2)]) (by decide +kernel) rfl (by decide) (fun _ => rfl) (fun x5 => (?_ : AW _ _ _ _ 38 _ _ _ _ _ _))
  refine AW.goto (off := -33) (tgt := 5) (by decide +kernel) (by decide) ?_
  refine AW.sub (L' := [(0, zR (some 0)), (1, zI c1), (2, zJ u2), (4, zI x5)]) [1, 2, 3, 0] rfl ?_
  exact hR u2 x5 μ
def L_Register_callable_5 (c1 : Int) (K : Int → ZMem → Option ZRes) : Nat → Int → Int → ZMem → Option ZRes
  | 0, _, _, _ => none
  | n + 1, v2, v4, μ => if w32 (μ 0 8) ≤ w32 v4 then (K v2 μ) else (zC (F_Register_isExcused v4 c1 μ) (zkI (fun x2 μ1 => if w32 x2 = 0 then (zRd μ1 2 6 v4 (fun x3 => zLet ((v2 + (w32 x3))) (fun x4 => J_Register_callable_35 (fun v2 v4 μ => L_Register_callable_5 c1 K n v2 v4 μ) K c1 x4 v4 μ1))) else (J_Register_callable_35 (fun v2 v4 μ => L_Register_callable_5 c1 K n v2 v4 μ) K c1 v2 v4 μ1))) zX0)
set_option maxRecDepth 100000 in
theorem l_Register_callable_5 {c1 : Int} {K : Int → ZMem → Option ZRes} (hK : ∀ (k2 : Int) (μ : ZMem), AW cf_Register_callable S_Register2.length S_Register2 S_Register2 41 [(2, zJ k2)] [] μ 0 0 (K k2 μ)) : ∀ (n : Nat) (v2 : Int) (v4 : Int) (μ : ZMem), AW cf_Register_callable S_Register2.length S_Register2 S_Register2 5 [(0, zR (some 0)), (1, zI c1), (2, zJ v2), (4, zI v4)] [] μ 0 0 (L_Register_callable_5 c1 K n v2 v4 μ) := by
  intro n
  induction n with
  | zero => intro v2 v4 μ; exact AW.noth
  | succ n ih =>
    intro v2 v4 μ
    rw [L_Register_callable_5]
    refine AW.iload (i := 4) (a := v4) (by decide +kernel) rfl (?_ : AW _ _ _ _ 7 _ _ _ _ _ _)
    refine AW.aload_n (i := 0) (a := 0) (by decide +kernel) rfl (?_ : AW _ _ _ _ 8 _ _ _ _ _ _)
    refine AW.getI (idx := 60) (ci := 4) (k := 8) (r := 0) (by decide +kernel) rfl rfl rfl (?_ : AW _ _ _ _ 11 _ _ _ _ _ _)
    refine AW.icmp_ge (off := 30) (tgt := 41) (by decide +kernel) (by decide) (fun _ => ?_) (fun _ => ?_)
    · refine AW.sub (L' := [(2, zJ v2)]) [2] rfl ?_
      exact hK v2 μ
    · refine AW.aload_n (i := 0) (a := 0) (by decide +kernel) rfl (?_ : AW _ _ _ _ 15 _ _ _ _ _ _)
      refine AW.iload (i := 4) (a := v4) (by decide +kernel) rfl (?_ : AW _ _ _ _ 17 _ _ _ _ _ _)
      refine AW.iload_n (i := 1) (a := c1) (by decide +kernel) rfl (?_ : AW _ _ _ _ 18 _ _ _ _ _ _)
      refine AW.callVw (g := cf_Register_isExcused) (av := [zI v4, zI c1]) (b0 := 0) (ci := 4) (idx := 70) (n := 2) (st := []) (by decide +kernel) (fun l hl r hr => c_Register_isExcused l hl v4 c1 _ r hr) S_Register2_wf rfl cal_Register_isExcused rfl (zw4 zm_X4_70 zi_yX4_isExcused zs_yX4_isExcused zn_X4) rfl rfl ⟨by decide, by decide, by decide, by decide⟩ (Nat.le_of_ble_eq_true rfl) (Or.inl rfl) (fun v μ1 => AW.kI (fun x2 => (?_ : AW _ _ _ _ 21 _ _ _ _ _ _)) v)
      refine AW.if_ne (off := 14) (tgt := 35) (by decide +kernel) (by decide) (fun _ => ?_) (fun _ => ?_)
      · refine AW.lload_n (i := 2) (a := v2) (by decide +kernel) rfl (?_ : AW _ _ _ _ 25 _ _ _ _ _ _)
        refine AW.aload_n (i := 0) (a := 0) (by decide +kernel) rfl (?_ : AW _ _ _ _ 26 _ _ _ _ _ _)
        refine AW.getR (idx := 15) (ci := 4) (k := 1) (r := 0) (by decide +kernel) rfl rfl rfl (?_ : AW _ _ _ _ 29 _ _ _ _ _ _)
        refine AW.iload (i := 4) (a := v4) (by decide +kernel) rfl (?_ : AW _ _ _ _ 31 _ _ _ _ _ _)
        refine AW.iald (r := 2) (by decide +kernel) rfl (fun x3 => (?_ : AW _ _ _ _ 32 _ _ _ _ _ _))
        refine AW.i2l (by decide +kernel) (?_ : AW _ _ _ _ 33 _ _ _ _ _ _)
        refine AW.ladd (by decide +kernel) (?_ : AW _ _ _ _ 34 _ _ _ _ _ _)
        refine AW.lstoreL_n (i := 2) (L' := fun x4 => [(2, zJ x4), (0, zR (some 0)), (1, zI c1), (4, zI v4)]) (by decide +kernel) (by decide) (fun _ => rfl) (fun x4 => (?_ : AW _ _ _ _ 35 _ _ _ _ _ _))
        refine AW.sub (L' := [(0, zR (some 0)), (1, zI c1), (2, zJ x4), (4, zI v4)]) [1, 2, 0, 3] rfl ?_
        exact j_Register_callable_35 c1 ih hK x4 v4 μ1
      · exact j_Register_callable_35 c1 ih hK v2 v4 μ1
def F_Register_callable (a1 : Int) (μ : ZMem) : Option ZRes := L_Register_callable_5 a1 (fun k7 μ6 => some (.inr (some (zJ k7)), μ6)) zN 0 0 μ
set_option maxRecDepth 100000 in
theorem w_Register_callable (a1 : Int) (μ : ZMem) : AW cf_Register_callable S_Register2.length S_Register2 S_Register2 0 [(0, zR (some 0)), (1, zI a1)] [] μ 0 0 (F_Register_callable a1 μ) := by
  unfold F_Register_callable
  refine AW.lconst0 (by decide +kernel) (?_ : AW _ _ _ _ 1 _ _ _ _ _ _)
  refine AW.lstore_n' (i := 2) (L' := [(2, zJ 0), (0, zR (some 0)), (1, zI a1)]) (by decide +kernel) (by decide) rfl (?_ : AW _ _ _ _ 2 _ _ _ _ _ _)
  refine AW.iconst (n := 0) (by decide +kernel) (?_ : AW _ _ _ _ 3 _ _ _ _ _ _)
  refine AW.istore' (i := 4) (L' := [(4, zI 0), (2, zJ 0), (0, zR (some 0)), (1, zI a1)]) (by decide +kernel) (by decide) rfl (?_ : AW _ _ _ _ 5 _ _ _ _ _ _)
  refine AW.sub (L' := [(0, zR (some 0)), (1, zI a1), (2, zJ 0), (4, zI 0)]) [2, 3, 1, 0] rfl ?_
  refine l_Register_callable_5 (fun k7 μ6 => ?_) zN _ _ _
  refine AW.lload_n (i := 2) (a := k7) (by decide +kernel) rfl (?_ : AW _ _ _ _ 42 _ _ _ _ _ _)
  exact AW.retl (by decide +kernel) rfl (by decide) (by decide)
theorem c_Register_callable (l : Launch) (hl : l.stackTraces = false) (a1 : Int) (μ : ZMem) (r : ZRes) (h : F_Register_callable a1 μ = some r) : ZC l cf_Register_callable S_Register2 S_Register2 [zR (some 0), zI a1] μ r := ZC.of hl (by decide +kernel) rfl rfl zft_X4_ok (Nat.le_of_ble_eq_true rfl) h (w_Register_callable a1 μ)
/-! WeirLedger$Register.split(J)V -/
def cf_Register_split : ZCf := (yX4_split, cX4_split, 10, none, [], 2, 0, 0, zft_X4, none)
theorem cal_Register_split : zCallee cf_Register_split 1 := ⟨rfl, zc_yX4_split, by decide, by decide, by decide +kernel⟩
def L_Register_split_5 (c1 : Int) (μ : ZMem) (K : Int → Option ZRes) : Nat → Int → Int → Option ZRes
  | 0, _, _ => none
  | n + 1, v3, v5 => if w32 (μ 0 8) ≤ w32 v5 then (K v3) else (zRd μ 6 6 v5 (fun x1 => zLet ((v3 + x1)) (fun x2 => zLet (v5 + 1) (fun x3 => L_Register_split_5 c1 μ K n x2 x3))))
set_option maxRecDepth 100000 in
theorem l_Register_split_5 {c1 : Int} {μ : ZMem} {K : Int → Option ZRes} (hK : ∀ (k3 : Int), AW cf_Register_split S_Register2.length S_Register2 S_Register2 30 [(0, zR (some 0)), (1, zJ c1), (3, zJ k3)] [] μ 0 0 (K k3)) : ∀ (n : Nat) (v3 : Int) (v5 : Int), AW cf_Register_split S_Register2.length S_Register2 S_Register2 5 [(0, zR (some 0)), (1, zJ c1), (3, zJ v3), (5, zI v5)] [] μ 0 0 (L_Register_split_5 c1 μ K n v3 v5) := by
  intro n
  induction n with
  | zero => intro v3 v5; exact AW.noth
  | succ n ih =>
    intro v3 v5
    rw [L_Register_split_5]
    refine AW.iload (i := 5) (a := v5) (by decide +kernel) rfl (?_ : AW _ _ _ _ 7 _ _ _ _ _ _)
    refine AW.aload_n (i := 0) (a := 0) (by decide +kernel) rfl (?_ : AW _ _ _ _ 8 _ _ _ _ _ _)
    refine AW.getI (idx := 60) (ci := 4) (k := 8) (r := 0) (by decide +kernel) rfl rfl rfl (?_ : AW _ _ _ _ 11 _ _ _ _ _ _)
    refine AW.icmp_ge (off := 19) (tgt := 30) (by decide +kernel) (by decide) (fun _ => ?_) (fun _ => ?_)
    · refine AW.sub (L' := [(0, zR (some 0)), (1, zJ c1), (3, zJ v3)]) [0, 1, 2] rfl ?_
      exact hK v3
    · refine AW.lload_n (i := 3) (a := v3) (by decide +kernel) rfl (?_ : AW _ _ _ _ 15 _ _ _ _ _ _)
      refine AW.aload_n (i := 0) (a := 0) (by decide +kernel) rfl (?_ : AW _ _ _ _ 16 _ _ _ _ _ _)
      refine AW.getR (idx := 28) (ci := 4) (k := 5) (r := 0) (by decide +kernel) rfl rfl rfl (?_ : AW _ _ _ _ 19 _ _ _ _ _ _)
      refine AW.iload (i := 5) (a := v5) (by decide +kernel) rfl (?_ : AW _ _ _ _ 21 _ _ _ _ _ _)
      refine AW.lald (r := 6) (by decide +kernel) rfl (fun x1 => (?_ : AW _ _ _ _ 22 _ _ _ _ _ _))
      refine AW.ladd (by decide +kernel) (?_ : AW _ _ _ _ 23 _ _ _ _ _ _)
      refine AW.lstoreL_n (i := 3) (L' := fun x2 => [(3, zJ x2), (0, zR (some 0)), (1, zJ c1), (5, zI v5)]) (by decide +kernel) (by decide) (fun _ => rfl) (fun x2 => (?_ : AW _ _ _ _ 24 _ _ _ _ _ _))
      refine AW.iincL (i := 5) (n := 1) (a := v5) (L' := fun x3 => [(5, zI x3), (3, zJ x2), (0, zR (some 0)), (1, zJ c1)]) (by decide +kernel) rfl (by decide) (fun _ => rfl) (fun x3 => (?_ : AW _ _ _ _ 27 _ _ _ _ _ _))
      refine AW.goto (off := -22) (tgt := 5) (by decide +kernel) (by decide) ?_
      refine AW.sub (L' := [(0, zR (some 0)), (1, zJ c1), (3, zJ x2), (5, zI x3)]) [2, 3, 1, 0] rfl ?_
      exact ih x2 x3
def J_Register_split_97 (R : Int → Int → ZMem → Option ZRes) (K : Int → ZMem → Option ZRes) (c1 : Int) (c3 : Int) (u5 : Int) (u7 : Int) (y0 : Int) (y1 : Int) (μ : ZMem) : Option ZRes := zWr μ 8 6 y1 y0 (fun μ8 => zRd μ8 7 6 u7 (fun x9 => zLet ((u5 - x9)) (fun x10 => zLet (u7 + 1) (fun x11 => R x10 x11 μ8))))
set_option maxRecDepth 100000 in
theorem j_Register_split_97 {R : Int → Int → ZMem → Option ZRes} {K : Int → ZMem → Option ZRes} (c1 : Int) (c3 : Int) (hR : ∀ (v5 : Int) (v7 : Int) (μ : ZMem), AW cf_Register_split S_Register2.length S_Register2 S_Register2 36 [(0, zR (some 0)), (1, zJ c1), (3, zJ c3), (5, zJ v5), (7, zI v7)] [] μ 0 0 (R v5 v7 μ)) (hK : ∀ (k5 : Int) (μ : ZMem), AW cf_Register_split S_Register2.length S_Register2 S_Register2 116 [(0, zR (some 0)), (5, zJ k5)] [] μ 0 0 (K k5 μ)) (u5 : Int) (u7 : Int) (y0 : Int) (y1 : Int) (μ : ZMem) : AW cf_Register_split S_Register2.length S_Register2 S_Register2 97 [(0, zR (some 0)), (1, zJ c1), (3, zJ c3), (5, zJ u5), (7, zI u7)] [zJ y0, zI y1, zR (some 8)] μ 0 0 (J_Register_split_97 R K c1 c3 u5 u7 y0 y1 μ) := by
  unfold J_Register_split_97
  refine AW.lastL (r := 8) (by decide +kernel) rfl (fun μ8 => (?_ : AW _ _ _ _ 98 _ _ _ _ _ _))
  refine AW.lload (i := 5) (a := u5) (by decide +kernel) rfl (?_ : AW _ _ _ _ 100 _ _ _ _ _ _)
  refine AW.aload_n (i := 0) (a := 0) (by decide +kernel) rfl (?_ : AW _ _ _ _ 101 _ _ _ _ _ _)
  refine AW.getR (idx := 31) (ci := 4) (k := 6) (r := 0) (by decide +kernel) rfl rfl rfl (?_ : AW _ _ _ _ 104 _ _ _ _ _ _)
  refine AW.iload (i := 7) (a := u7) (by decide +kernel) rfl (?_ : AW _ _ _ _ 106 _ _ _ _ _ _)
  refine AW.lald (r := 7) (by decide +kernel) rfl (fun x9 => (?_ : AW _ _ _ _ 107 _ _ _ _ _ _))
  refine AW.lsub (by decide +kernel) (?_ : AW _ _ _ _ 108 _ _ _ _ _ _)
  refine AW.lstoreL (i := 5) (L' := fun x10 => [(5, zJ x10), (0, zR (some 0)), (1, zJ c1), (3, zJ c3), (7, zI u7)]) (by decide +kernel) (by decide) (fun _ => rfl) (fun x10 => (?_ : AW _ _ _ _ 110 _ _ _ _ _ _))
  refine AW.iincL (i := 7) (n := 1) (a := u7) (L' := fun x11 => [(7, zI x11), (5, zJ x10), (0, zR (some 0)), (1, zJ c1), (3, zJ c3)]) (by decide +kernel) rfl (by decide) (fun _ => rfl) (fun x11 => (?_ : AW _ _ _ _ 113 _ _ _ _ _ _))
  refine AW.goto (off := -77) (tgt := 36) (by decide +kernel) (by decide) ?_
  refine AW.sub (L' := [(0, zR (some 0)), (1, zJ c1), (3, zJ c3), (5, zJ x10), (7, zI x11)]) [2, 3, 4, 1, 0] rfl ?_
  exact hR x10 x11 μ8
def J_Register_split_76 (R : Int → Int → ZMem → Option ZRes) (K : Int → ZMem → Option ZRes) (c1 : Int) (c3 : Int) (u5 : Int) (u7 : Int) (u8 : Int) (y0 : Int) (y1 : Int) (μ : ZMem) : Option ZRes := zWr μ 7 6 y1 y0 (fun μ7 => if w64 c3 ≤ w64 0 then (J_Register_split_97 R K c1 c3 u5 u7 0 u7 μ7) else (if w64 c3 = 0 then none else (J_Register_split_97 R K c1 c3 u5 u7 ((w64 u8).tmod (w64 c3)) u7 μ7)))
set_option maxRecDepth 100000 in
theorem j_Register_split_76 {R : Int → Int → ZMem → Option ZRes} {K : Int → ZMem → Option ZRes} (c1 : Int) (c3 : Int) (hR : ∀ (v5 : Int) (v7 : Int) (μ : ZMem), AW cf_Register_split S_Register2.length S_Register2 S_Register2 36 [(0, zR (some 0)), (1, zJ c1), (3, zJ c3), (5, zJ v5), (7, zI v7)] [] μ 0 0 (R v5 v7 μ)) (hK : ∀ (k5 : Int) (μ : ZMem), AW cf_Register_split S_Register2.length S_Register2 S_Register2 116 [(0, zR (some 0)), (5, zJ k5)] [] μ 0 0 (K k5 μ)) (u5 : Int) (u7 : Int) (u8 : Int) (y0 : Int) (y1 : Int) (μ : ZMem) : AW cf_Register_split S_Register2.length S_Register2 S_Register2 76 [(0, zR (some 0)), (1, zJ c1), (3, zJ c3), (5, zJ u5), (7, zI u7), (8, zJ u8)] [zJ y0, zI y1, zR (some 7)] μ 0 0 (J_Register_split_76 R K c1 c3 u5 u7 u8 y0 y1 μ) := by
  unfold J_Register_split_76
  refine AW.lastL (r := 7) (by decide +kernel) rfl (fun μ7 => (?_ : AW _ _ _ _ 77 _ _ _ _ _ _))
  refine AW.aload_n (i := 0) (a := 0) (by decide +kernel) rfl (?_ : AW _ _ _ _ 78 _ _ _ _ _ _)
  refine AW.getR (idx := 34) (ci := 4) (k := 7) (r := 0) (by decide +kernel) rfl rfl rfl (?_ : AW _ _ _ _ 81 _ _ _ _ _ _)
  refine AW.iload (i := 7) (a := u7) (by decide +kernel) rfl (?_ : AW _ _ _ _ 83 _ _ _ _ _ _)
  refine AW.lload_n (i := 3) (a := c3) (by decide +kernel) rfl (?_ : AW _ _ _ _ 84 _ _ _ _ _ _)
  refine AW.lconst0 (by decide +kernel) (?_ : AW _ _ _ _ 85 _ _ _ _ _ _)
  refine AW.lcmp_le (off := 10) (tgt := 96) (by decide +kernel) (by decide +kernel) (by decide) (fun _ => ?_) (fun _ => ?_)
  · refine AW.lconst0 (by decide +kernel) (?_ : AW _ _ _ _ 97 _ _ _ _ _ _)
    refine AW.sub (L' := [(0, zR (some 0)), (1, zJ c1), (3, zJ c3), (5, zJ u5), (7, zI u7)]) [0, 1, 2, 3, 4] rfl ?_
    exact j_Register_split_97 c1 c3 hR hK u5 u7 0 u7 μ7
  · refine AW.lload (i := 8) (a := u8) (by decide +kernel) rfl (?_ : AW _ _ _ _ 91 _ _ _ _ _ _)
    refine AW.lload_n (i := 3) (a := c3) (by decide +kernel) rfl (?_ : AW _ _ _ _ 92 _ _ _ _ _ _)
    refine AW.lrem_if (K := fun _ => _) (by decide +kernel) (?_ : AW _ _ _ _ 93 _ _ _ _ _ _)
    refine AW.goto (off := 4) (tgt := 97) (by decide +kernel) (by decide) ?_
    refine AW.sub (L' := [(0, zR (some 0)), (1, zJ c1), (3, zJ c3), (5, zJ u5), (7, zI u7)]) [0, 1, 2, 3, 4] rfl ?_
    exact j_Register_split_97 c1 c3 hR hK u5 u7 ((w64 u8).tmod (w64 c3)) u7 μ7
def L_Register_split_36 (c1 : Int) (c3 : Int) (K : Int → ZMem → Option ZRes) : Nat → Int → Int → ZMem → Option ZRes
  | 0, _, _, _ => none
  | n + 1, v5, v7, μ => if w32 (μ 0 8) ≤ w32 v7 then (K v5 μ) else (zRd μ 6 6 v7 (fun x5 => zLet ((c1 * x5)) (fun x6 => if w64 c3 ≤ w64 0 then (J_Register_split_76 (fun v5 v7 μ => L_Register_split_36 c1 c3 K n v5 v7 μ) K c1 c3 v5 v7 x6 0 v7 μ) else (if w64 c3 = 0 then none else (J_Register_split_76 (fun v5 v7 μ => L_Register_split_36 c1 c3 K n v5 v7 μ) K c1 c3 v5 v7 x6 ((w64 x6).tdiv (w64 c3)) v7 μ)))))
set_option maxRecDepth 100000 in
theorem l_Register_split_36 {c1 : Int} {c3 : Int} {K : Int → ZMem → Option ZRes} (hK : ∀ (k5 : Int) (μ : ZMem), AW cf_Register_split S_Register2.length S_Register2 S_Register2 116 [(0, zR (some 0)), (5, zJ k5)] [] μ 0 0 (K k5 μ)) : ∀ (n : Nat) (v5 : Int) (v7 : Int) (μ : ZMem), AW cf_Register_split S_Register2.length S_Register2 S_Register2 36 [(0, zR (some 0)), (1, zJ c1), (3, zJ c3), (5, zJ v5), (7, zI v7)] [] μ 0 0 (L_Register_split_36 c1 c3 K n v5 v7 μ) := by
  intro n
  induction n with
  | zero => intro v5 v7 μ; exact AW.noth
  | succ n ih =>
    intro v5 v7 μ
    rw [L_Register_split_36]
    refine AW.iload (i := 7) (a := v7) (by decide +kernel) rfl (?_ : AW _ _ _ _ 38 _ _ _ _ _ _)
    refine AW.aload_n (i := 0) (a := 0) (by decide +kernel) rfl (?_ : AW _ _ _ _ 39 _ _ _ _ _ _)
    refine AW.getI (idx := 60) (ci := 4) (k := 8) (r := 0) (by decide +kernel) rfl rfl rfl (?_ : AW _ _ _ _ 42 _ _ _ _ _ _)
    refine AW.icmp_ge (off := 74) (tgt := 116) (by decide +kernel) (by decide) (fun _ => ?_) (fun _ => ?_)
    · refine AW.sub (L' := [(0, zR (some 0)), (5, zJ v5)]) [0, 3] rfl ?_
      exact hK v5 μ
    · refine AW.lload_n (i := 1) (a := c1) (by decide +kernel) rfl (?_ : AW _ _ _ _ 46 _ _ _ _ _ _)
      refine AW.aload_n (i := 0) (a := 0) (by decide +kernel) rfl (?_ : AW _ _ _ _ 47 _ _ _ _ _ _)
      refine AW.getR (idx := 28) (ci := 4) (k := 5) (r := 0) (by decide +kernel) rfl rfl rfl (?_ : AW _ _ _ _ 50 _ _ _ _ _ _)
      refine AW.iload (i := 7) (a := v7) (by decide +kernel) rfl (?_ : AW _ _ _ _ 52 _ _ _ _ _ _)
      refine AW.lald (r := 6) (by decide +kernel) rfl (fun x5 => (?_ : AW _ _ _ _ 53 _ _ _ _ _ _))
      refine AW.lmul (by decide +kernel) (?_ : AW _ _ _ _ 54 _ _ _ _ _ _)
      refine AW.lstoreL (i := 8) (L' := fun x6 => [(8, zJ x6), (0, zR (some 0)), (1, zJ c1), (3, zJ c3), (5, zJ v5), (7, zI v7)]) (by decide +kernel) (by decide) (fun _ => rfl) (fun x6 => (?_ : AW _ _ _ _ 56 _ _ _ _ _ _))
      refine AW.aload_n (i := 0) (a := 0) (by decide +kernel) rfl (?_ : AW _ _ _ _ 57 _ _ _ _ _ _)
      refine AW.getR (idx := 31) (ci := 4) (k := 6) (r := 0) (by decide +kernel) rfl rfl rfl (?_ : AW _ _ _ _ 60 _ _ _ _ _ _)
      refine AW.iload (i := 7) (a := v7) (by decide +kernel) rfl (?_ : AW _ _ _ _ 62 _ _ _ _ _ _)
      refine AW.lload_n (i := 3) (a := c3) (by decide +kernel) rfl (?_ : AW _ _ _ _ 63 _ _ _ _ _ _)
      refine AW.lconst0 (by decide +kernel) (?_ : AW _ _ _ _ 64 _ _ _ _ _ _)
      refine AW.lcmp_le (off := 10) (tgt := 75) (by decide +kernel) (by decide +kernel) (by decide) (fun _ => ?_) (fun _ => ?_)
      · refine AW.lconst0 (by decide +kernel) (?_ : AW _ _ _ _ 76 _ _ _ _ _ _)
        refine AW.sub (L' := [(0, zR (some 0)), (1, zJ c1), (3, zJ c3), (5, zJ v5), (7, zI v7), (8, zJ x6)]) [1, 2, 3, 4, 5, 0] rfl ?_
        exact j_Register_split_76 c1 c3 ih hK v5 v7 x6 0 v7 μ
      · refine AW.lload (i := 8) (a := x6) (by decide +kernel) rfl (?_ : AW _ _ _ _ 70 _ _ _ _ _ _)
        refine AW.lload_n (i := 3) (a := c3) (by decide +kernel) rfl (?_ : AW _ _ _ _ 71 _ _ _ _ _ _)
        refine AW.ldiv_if (K := fun _ => _) (by decide +kernel) (?_ : AW _ _ _ _ 72 _ _ _ _ _ _)
        refine AW.goto (off := 4) (tgt := 76) (by decide +kernel) (by decide) ?_
        refine AW.sub (L' := [(0, zR (some 0)), (1, zJ c1), (3, zJ c3), (5, zJ v5), (7, zI v7), (8, zJ x6)]) [1, 2, 3, 4, 5, 0] rfl ?_
        exact j_Register_split_76 c1 c3 ih hK v5 v7 x6 ((w64 x6).tdiv (w64 c3)) v7 μ
def J_Register_split_174 (R : Int → Int → Option ZRes) (K : Int → Option ZRes) (c5 : Int) (c7 : Int) (u8 : Int) (u9 : Int) (μ : ZMem) : Option ZRes := zLet (u9 + 1) (fun x16 => R u8 x16)
set_option maxRecDepth 100000 in
theorem j_Register_split_174 {R : Int → Int → Option ZRes} {K : Int → Option ZRes} (μ : ZMem) (c5 : Int) (c7 : Int) (hR : ∀ (v8 : Int) (v9 : Int), AW cf_Register_split S_Register2.length S_Register2 S_Register2 143 [(0, zR (some 0)), (5, zJ c5), (7, zI c7), (8, zI v8), (9, zI v9)] [] μ 0 0 (R v8 v9)) (hK : ∀ (k8 : Int), AW cf_Register_split S_Register2.length S_Register2 S_Register2 180 [(0, zR (some 0)), (5, zJ c5), (7, zI c7), (8, zI k8)] [] μ 0 0 (K k8)) (u8 : Int) (u9 : Int) : AW cf_Register_split S_Register2.length S_Register2 S_Register2 174 [(0, zR (some 0)), (5, zJ c5), (7, zI c7), (8, zI u8), (9, zI u9)] [] μ 0 0 (J_Register_split_174 R K c5 c7 u8 u9 μ) := by
  unfold J_Register_split_174
  refine AW.iincL (i := 9) (n := 1) (a := u9) (L' := fun x16 => [(9, zI x16), (0, zR (some 0)), (5, zJ c5), (7, zI c7), (8, zI u8)]) (by decide +kernel) rfl (by decide) (fun _ => rfl) (fun x16 => (?_ : AW _ _ _ _ 177 _ _ _ _ _ _))
  refine AW.goto (off := -34) (tgt := 143) (by decide +kernel) (by decide) ?_
  refine AW.sub (L' := [(0, zR (some 0)), (5, zJ c5), (7, zI c7), (8, zI u8), (9, zI x16)]) [1, 2, 3, 4, 0] rfl ?_
  exact hR u8 x16
def L_Register_split_143 (c5 : Int) (c7 : Int) (μ : ZMem) (K : Int → Option ZRes) : Nat → Int → Int → Option ZRes
  | 0, _, _ => none
  | n + 1, v8, v9 => if w32 (μ 0 8) ≤ w32 v9 then (K v8) else (zRd μ 8 6 v9 (fun x14 => zRd μ 8 6 v8 (fun x15 => if w64 x14 ≤ w64 x15 then (J_Register_split_174 (fun v8 v9 => L_Register_split_143 c5 c7 μ K n v8 v9) K c5 c7 v8 v9 μ) else (J_Register_split_174 (fun v8 v9 => L_Register_split_143 c5 c7 μ K n v8 v9) K c5 c7 v9 v9 μ))))
set_option maxRecDepth 100000 in
theorem l_Register_split_143 {c5 : Int} {c7 : Int} {μ : ZMem} {K : Int → Option ZRes} (hK : ∀ (k8 : Int), AW cf_Register_split S_Register2.length S_Register2 S_Register2 180 [(0, zR (some 0)), (5, zJ c5), (7, zI c7), (8, zI k8)] [] μ 0 0 (K k8)) : ∀ (n : Nat) (v8 : Int) (v9 : Int), AW cf_Register_split S_Register2.length S_Register2 S_Register2 143 [(0, zR (some 0)), (5, zJ c5), (7, zI c7), (8, zI v8), (9, zI v9)] [] μ 0 0 (L_Register_split_143 c5 c7 μ K n v8 v9) := by
  intro n
  induction n with
  | zero => intro v8 v9; exact AW.noth
  | succ n ih =>
    intro v8 v9
    rw [L_Register_split_143]
    refine AW.iload (i := 9) (a := v9) (by decide +kernel) rfl (?_ : AW _ _ _ _ 145 _ _ _ _ _ _)
    refine AW.aload_n (i := 0) (a := 0) (by decide +kernel) rfl (?_ : AW _ _ _ _ 146 _ _ _ _ _ _)
    refine AW.getI (idx := 60) (ci := 4) (k := 8) (r := 0) (by decide +kernel) rfl rfl rfl (?_ : AW _ _ _ _ 149 _ _ _ _ _ _)
    refine AW.icmp_ge (off := 31) (tgt := 180) (by decide +kernel) (by decide) (fun _ => ?_) (fun _ => ?_)
    · refine AW.sub (L' := [(0, zR (some 0)), (5, zJ c5), (7, zI c7), (8, zI v8)]) [0, 1, 2, 3] rfl ?_
      exact hK v8
    · refine AW.aload_n (i := 0) (a := 0) (by decide +kernel) rfl (?_ : AW _ _ _ _ 153 _ _ _ _ _ _)
      refine AW.getR (idx := 34) (ci := 4) (k := 7) (r := 0) (by decide +kernel) rfl rfl rfl (?_ : AW _ _ _ _ 156 _ _ _ _ _ _)
      refine AW.iload (i := 9) (a := v9) (by decide +kernel) rfl (?_ : AW _ _ _ _ 158 _ _ _ _ _ _)
      refine AW.lald (r := 8) (by decide +kernel) rfl (fun x14 => (?_ : AW _ _ _ _ 159 _ _ _ _ _ _))
      refine AW.aload_n (i := 0) (a := 0) (by decide +kernel) rfl (?_ : AW _ _ _ _ 160 _ _ _ _ _ _)
      refine AW.getR (idx := 34) (ci := 4) (k := 7) (r := 0) (by decide +kernel) rfl rfl rfl (?_ : AW _ _ _ _ 163 _ _ _ _ _ _)
      refine AW.iload (i := 8) (a := v8) (by decide +kernel) rfl (?_ : AW _ _ _ _ 165 _ _ _ _ _ _)
      refine AW.lald (r := 8) (by decide +kernel) rfl (fun x15 => (?_ : AW _ _ _ _ 166 _ _ _ _ _ _))
      refine AW.lcmp_le (off := 7) (tgt := 174) (by decide +kernel) (by decide +kernel) (by decide) (fun _ => ?_) (fun _ => ?_)
      · exact j_Register_split_174 μ c5 c7 ih hK v8 v9
      · refine AW.iload (i := 9) (a := v9) (by decide +kernel) rfl (?_ : AW _ _ _ _ 172 _ _ _ _ _ _)
        refine AW.istore' (i := 8) (L' := [(8, zI v9), (0, zR (some 0)), (5, zJ c5), (7, zI c7), (9, zI v9)]) (by decide +kernel) (by decide) rfl (?_ : AW _ _ _ _ 174 _ _ _ _ _ _)
        refine AW.sub (L' := [(0, zR (some 0)), (5, zJ c5), (7, zI c7), (8, zI v9), (9, zI v9)]) [1, 2, 3, 0, 4] rfl ?_
        exact j_Register_split_174 μ c5 c7 ih hK v9 v9
def J_Register_split_211 (R : Int → ZMem → Option ZRes) (K : ZMem → Option ZRes) (c5 : Int) (u7 : Int) (μ : ZMem) : Option ZRes := zLet (u7 + 1) (fun x19 => R x19 μ)
set_option maxRecDepth 100000 in
theorem j_Register_split_211 {R : Int → ZMem → Option ZRes} {K : ZMem → Option ZRes} (c5 : Int) (hR : ∀ (v7 : Int) (μ : ZMem), AW cf_Register_split S_Register2.length S_Register2 S_Register2 119 [(0, zR (some 0)), (5, zJ c5), (7, zI v7)] [] μ 0 0 (R v7 μ)) (hK : ∀ (μ : ZMem), AW cf_Register_split S_Register2.length S_Register2 S_Register2 217 [] [] μ 0 0 (K μ)) (u7 : Int) (μ : ZMem) : AW cf_Register_split S_Register2.length S_Register2 S_Register2 211 [(0, zR (some 0)), (5, zJ c5), (7, zI u7)] [] μ 0 0 (J_Register_split_211 R K c5 u7 μ) := by
  unfold J_Register_split_211
  refine AW.iincL (i := 7) (n := 1) (a := u7) (L' := fun x19 => [(7, zI x19), (0, zR (some 0)), (5, zJ c5)]) (by decide +kernel) rfl (by decide) (fun _ => rfl) (fun x19 => (?_ : AW _ _ _ _ 214 _ _ _ _ _ _))
  refine AW.goto (off := -95) (tgt := 119) (by decide +kernel) (by decide) ?_
  refine AW.sub (L' := [(0, zR (some 0)), (5, zJ c5), (7, zI x19)]) [1, 2, 0] rfl ?_
  exact hR x19 μ
def L_Register_split_119 (c5 : Int) (K : ZMem → Option ZRes) : Nat → Int → ZMem → Option ZRes
  | 0, _, _ => none
  | n + 1, v7, μ => if w32 (μ 0 8) ≤ w32 v7 then (K  μ) else (if w64 c5 ≤ w64 (w32 v7) then (K  μ) else (L_Register_split_143 c5 v7 μ (fun k17 => zRd μ 8 6 k17 (fun x18 => if w64 x18 ≤ w64 0 then (J_Register_split_211 (fun v7 μ => L_Register_split_119 c5 K n v7 μ) K c5 v7 μ) else (zRd μ 7 6 k17 (fun x20 => zWr μ 7 6 k17 (x20 + 1) (fun μ21 => zWr μ21 8 6 k17 0 (fun μ22 => J_Register_split_211 (fun v7 μ => L_Register_split_119 c5 K n v7 μ) K c5 v7 μ22)))))) zN 0 1))
set_option maxRecDepth 100000 in
theorem l_Register_split_119 {c5 : Int} {K : ZMem → Option ZRes} (hK : ∀ (μ : ZMem), AW cf_Register_split S_Register2.length S_Register2 S_Register2 217 [] [] μ 0 0 (K μ)) : ∀ (n : Nat) (v7 : Int) (μ : ZMem), AW cf_Register_split S_Register2.length S_Register2 S_Register2 119 [(0, zR (some 0)), (5, zJ c5), (7, zI v7)] [] μ 0 0 (L_Register_split_119 c5 K n v7 μ) := by
  intro n
  induction n with
  | zero => intro v7 μ; exact AW.noth
  | succ n ih =>
    intro v7 μ
    rw [L_Register_split_119]
    refine AW.iload (i := 7) (a := v7) (by decide +kernel) rfl (?_ : AW _ _ _ _ 121 _ _ _ _ _ _)
    refine AW.aload_n (i := 0) (a := 0) (by decide +kernel) rfl (?_ : AW _ _ _ _ 122 _ _ _ _ _ _)
    refine AW.getI (idx := 60) (ci := 4) (k := 8) (r := 0) (by decide +kernel) rfl rfl rfl (?_ : AW _ _ _ _ 125 _ _ _ _ _ _)
    refine AW.icmp_ge (off := 92) (tgt := 217) (by decide +kernel) (by decide) (fun _ => ?_) (fun _ => ?_)
    · refine AW.sub (L' := []) [] rfl ?_
      exact hK  μ
    · refine AW.iload (i := 7) (a := v7) (by decide +kernel) rfl (?_ : AW _ _ _ _ 130 _ _ _ _ _ _)
      refine AW.i2l (by decide +kernel) (?_ : AW _ _ _ _ 131 _ _ _ _ _ _)
      refine AW.lload (i := 5) (a := c5) (by decide +kernel) rfl (?_ : AW _ _ _ _ 133 _ _ _ _ _ _)
      refine AW.lcmp_ge (off := 83) (tgt := 217) (by decide +kernel) (by decide +kernel) (by decide) (fun _ => ?_) (fun _ => ?_)
      · refine AW.sub (L' := []) [] rfl ?_
        exact hK  μ
      · refine AW.iconst (n := 0) (by decide +kernel) (?_ : AW _ _ _ _ 138 _ _ _ _ _ _)
        refine AW.istore' (i := 8) (L' := [(8, zI 0), (0, zR (some 0)), (5, zJ c5), (7, zI v7)]) (by decide +kernel) (by decide) rfl (?_ : AW _ _ _ _ 140 _ _ _ _ _ _)
        refine AW.iconst (n := 1) (by decide +kernel) (?_ : AW _ _ _ _ 141 _ _ _ _ _ _)
        refine AW.istore' (i := 9) (L' := [(9, zI 1), (8, zI 0), (0, zR (some 0)), (5, zJ c5), (7, zI v7)]) (by decide +kernel) (by decide) rfl (?_ : AW _ _ _ _ 143 _ _ _ _ _ _)
        refine AW.sub (L' := [(0, zR (some 0)), (5, zJ c5), (7, zI v7), (8, zI 0), (9, zI 1)]) [2, 3, 4, 1, 0] rfl ?_
        refine l_Register_split_143 (fun k17 => ?_) zN _ _
        refine AW.aload_n (i := 0) (a := 0) (by decide +kernel) rfl (?_ : AW _ _ _ _ 181 _ _ _ _ _ _)
        refine AW.getR (idx := 34) (ci := 4) (k := 7) (r := 0) (by decide +kernel) rfl rfl rfl (?_ : AW _ _ _ _ 184 _ _ _ _ _ _)
        refine AW.iload (i := 8) (a := k17) (by decide +kernel) rfl (?_ : AW _ _ _ _ 186 _ _ _ _ _ _)
        refine AW.lald (r := 8) (by decide +kernel) rfl (fun x18 => (?_ : AW _ _ _ _ 187 _ _ _ _ _ _))
        refine AW.lconst0 (by decide +kernel) (?_ : AW _ _ _ _ 188 _ _ _ _ _ _)
        refine AW.lcmp_le (off := 22) (tgt := 211) (by decide +kernel) (by decide +kernel) (by decide) (fun _ => ?_) (fun _ => ?_)
        · refine AW.sub (L' := [(0, zR (some 0)), (5, zJ c5), (7, zI v7)]) [0, 1, 2] rfl ?_
          exact j_Register_split_211 c5 ih hK v7 μ
        · refine AW.aload_n (i := 0) (a := 0) (by decide +kernel) rfl (?_ : AW _ _ _ _ 193 _ _ _ _ _ _)
          refine AW.getR (idx := 31) (ci := 4) (k := 6) (r := 0) (by decide +kernel) rfl rfl rfl (?_ : AW _ _ _ _ 196 _ _ _ _ _ _)
          refine AW.iload (i := 8) (a := k17) (by decide +kernel) rfl (?_ : AW _ _ _ _ 198 _ _ _ _ _ _)
          refine AW.dup2 (by decide +kernel) rfl rfl (?_ : AW _ _ _ _ 199 _ _ _ _ _ _)
          refine AW.lald (r := 7) (by decide +kernel) rfl (fun x20 => (?_ : AW _ _ _ _ 200 _ _ _ _ _ _))
          refine AW.lconst1 (by decide +kernel) (?_ : AW _ _ _ _ 201 _ _ _ _ _ _)
          refine AW.ladd (by decide +kernel) (?_ : AW _ _ _ _ 202 _ _ _ _ _ _)
          refine AW.lastL (r := 7) (by decide +kernel) rfl (fun μ21 => (?_ : AW _ _ _ _ 203 _ _ _ _ _ _))
          refine AW.aload_n (i := 0) (a := 0) (by decide +kernel) rfl (?_ : AW _ _ _ _ 204 _ _ _ _ _ _)
          refine AW.getR (idx := 34) (ci := 4) (k := 7) (r := 0) (by decide +kernel) rfl rfl rfl (?_ : AW _ _ _ _ 207 _ _ _ _ _ _)
          refine AW.iload (i := 8) (a := k17) (by decide +kernel) rfl (?_ : AW _ _ _ _ 209 _ _ _ _ _ _)
          refine AW.lconst0 (by decide +kernel) (?_ : AW _ _ _ _ 210 _ _ _ _ _ _)
          refine AW.lastL (r := 8) (by decide +kernel) rfl (fun μ22 => (?_ : AW _ _ _ _ 211 _ _ _ _ _ _))
          refine AW.sub (L' := [(0, zR (some 0)), (5, zJ c5), (7, zI v7)]) [0, 1, 2] rfl ?_
          exact j_Register_split_211 c5 ih hK v7 μ22
def F_Register_split (a1 : Int) (μ : ZMem) : Option ZRes := L_Register_split_5 a1 μ (fun k4 => L_Register_split_36 a1 k4 (fun k13 μ12 => L_Register_split_119 k13 (fun μ23 => some (.inr none, μ23)) zN 0 μ12) zN a1 0 μ) zN 0 0
set_option maxRecDepth 100000 in
theorem w_Register_split (a1 : Int) (μ : ZMem) : AW cf_Register_split S_Register2.length S_Register2 S_Register2 0 [(0, zR (some 0)), (1, zJ a1)] [] μ 0 0 (F_Register_split a1 μ) := by
  unfold F_Register_split
  refine AW.lconst0 (by decide +kernel) (?_ : AW _ _ _ _ 1 _ _ _ _ _ _)
  refine AW.lstore_n' (i := 3) (L' := [(3, zJ 0), (0, zR (some 0)), (1, zJ a1)]) (by decide +kernel) (by decide) rfl (?_ : AW _ _ _ _ 2 _ _ _ _ _ _)
  refine AW.iconst (n := 0) (by decide +kernel) (?_ : AW _ _ _ _ 3 _ _ _ _ _ _)
  refine AW.istore' (i := 5) (L' := [(5, zI 0), (3, zJ 0), (0, zR (some 0)), (1, zJ a1)]) (by decide +kernel) (by decide) rfl (?_ : AW _ _ _ _ 5 _ _ _ _ _ _)
  refine AW.sub (L' := [(0, zR (some 0)), (1, zJ a1), (3, zJ 0), (5, zI 0)]) [2, 3, 1, 0] rfl ?_
  refine l_Register_split_5 (fun k4 => ?_) zN _ _
  refine AW.lload_n (i := 1) (a := a1) (by decide +kernel) rfl (?_ : AW _ _ _ _ 31 _ _ _ _ _ _)
  refine AW.lstore' (i := 5) (L' := [(5, zJ a1), (0, zR (some 0)), (1, zJ a1), (3, zJ k4)]) (by decide +kernel) (by decide) rfl (?_ : AW _ _ _ _ 33 _ _ _ _ _ _)
  refine AW.iconst (n := 0) (by decide +kernel) (?_ : AW _ _ _ _ 34 _ _ _ _ _ _)
  refine AW.istore' (i := 7) (L' := [(7, zI 0), (5, zJ a1), (0, zR (some 0)), (1, zJ a1), (3, zJ k4)]) (by decide +kernel) (by decide) rfl (?_ : AW _ _ _ _ 36 _ _ _ _ _ _)
  refine AW.sub (L' := [(0, zR (some 0)), (1, zJ a1), (3, zJ k4), (5, zJ a1), (7, zI 0)]) [2, 3, 4, 1, 0] rfl ?_
  refine l_Register_split_36 (fun k13 μ12 => ?_) zN _ _ _
  refine AW.iconst (n := 0) (by decide +kernel) (?_ : AW _ _ _ _ 117 _ _ _ _ _ _)
  refine AW.istore' (i := 7) (L' := [(7, zI 0), (0, zR (some 0)), (5, zJ k13)]) (by decide +kernel) (by decide) rfl (?_ : AW _ _ _ _ 119 _ _ _ _ _ _)
  refine AW.sub (L' := [(0, zR (some 0)), (5, zJ k13), (7, zI 0)]) [1, 2, 0] rfl ?_
  refine l_Register_split_119 (fun μ23 => ?_) zN _ _
  exact AW.retv (by decide +kernel) rfl (by decide) (by decide)
theorem c_Register_split (l : Launch) (hl : l.stackTraces = false) (a1 : Int) (μ : ZMem) (r : ZRes) (h : F_Register_split a1 μ = some r) : ZC l cf_Register_split S_Register2 S_Register2 [zR (some 0), zJ a1] μ r := ZC.of hl (by decide +kernel) rfl rfl zft_X4_ok (Nat.le_of_ble_eq_true rfl) h (w_Register_split a1 μ)
/-! WeirLedger$Register.setFailed(I)I -/
def cf_Register_setFailed : ZCf := (yX4_setFailed, cX4_setFailed, 2, some .int, [], 3, 0, 0, zft_X4, none)
theorem cal_Register_setFailed : zCallee cf_Register_setFailed 1 := ⟨rfl, zc_yX4_setFailed, by decide, by decide, by decide +kernel⟩
def F_Register_setFailed (a1 : Int) (μ : ZMem) : Option ZRes := zLet (zUp μ 0 9 (zor (μ 0 9) (zshl 1 a1))) (fun μ1 => zWr μ1 2 6 a1 0 (fun μ2 => zC (F_Register_weightOf a1 μ2) (zkI (fun x4 μ3 => some (.inr (some (zI x4)), μ3))) zX0))
set_option maxRecDepth 100000 in
theorem w_Register_setFailed (a1 : Int) (μ : ZMem) : AW cf_Register_setFailed S_Register2.length S_Register2 S_Register2 0 [(0, zR (some 0)), (1, zI a1)] [] μ 0 0 (F_Register_setFailed a1 μ) := by
  unfold F_Register_setFailed
  refine AW.aload_n (i := 0) (a := 0) (by decide +kernel) rfl (?_ : AW _ _ _ _ 1 _ _ _ _ _ _)
  refine AW.dup (by decide +kernel) rfl (?_ : AW _ _ _ _ 2 _ _ _ _ _ _)
  refine AW.getI (idx := 63) (ci := 4) (k := 9) (r := 0) (by decide +kernel) rfl rfl rfl (?_ : AW _ _ _ _ 5 _ _ _ _ _ _)
  refine AW.iconst (n := 1) (by decide +kernel) (?_ : AW _ _ _ _ 6 _ _ _ _ _ _)
  refine AW.iload_n (i := 1) (a := a1) (by decide +kernel) rfl (?_ : AW _ _ _ _ 7 _ _ _ _ _ _)
  refine AW.ishl (by decide +kernel) (?_ : AW _ _ _ _ 8 _ _ _ _ _ _)
  refine AW.ior (by decide +kernel) (?_ : AW _ _ _ _ 9 _ _ _ _ _ _)
  refine AW.putiL (idx := 63) (ci := 4) (k := 9) (r := 0) (by decide +kernel) rfl rfl rfl (fun μ1 => (?_ : AW _ _ _ _ 12 _ _ _ _ _ _))
  refine AW.aload_n (i := 0) (a := 0) (by decide +kernel) rfl (?_ : AW _ _ _ _ 13 _ _ _ _ _ _)
  refine AW.getR (idx := 15) (ci := 4) (k := 1) (r := 0) (by decide +kernel) rfl rfl rfl (?_ : AW _ _ _ _ 16 _ _ _ _ _ _)
  refine AW.iload_n (i := 1) (a := a1) (by decide +kernel) rfl (?_ : AW _ _ _ _ 17 _ _ _ _ _ _)
  refine AW.iconst (n := 0) (by decide +kernel) (?_ : AW _ _ _ _ 18 _ _ _ _ _ _)
  refine AW.iastL (r := 2) (by decide +kernel) rfl (fun μ2 => (?_ : AW _ _ _ _ 19 _ _ _ _ _ _))
  refine AW.aload_n (i := 0) (a := 0) (by decide +kernel) rfl (?_ : AW _ _ _ _ 20 _ _ _ _ _ _)
  refine AW.iload_n (i := 1) (a := a1) (by decide +kernel) rfl (?_ : AW _ _ _ _ 21 _ _ _ _ _ _)
  refine AW.callVw (g := cf_Register_weightOf) (av := [zI a1]) (b0 := 0) (ci := 4) (idx := 74) (n := 1) (st := []) (by decide +kernel) (fun l hl r hr => c_Register_weightOf l hl a1 _ r hr) S_Register2_wf rfl cal_Register_weightOf rfl (zw4 zm_X4_74 zi_yX4_weightOf zs_yX4_weightOf zn_X4) rfl rfl ⟨by decide, by decide, by decide, by decide⟩ (Nat.le_of_ble_eq_true rfl) (Or.inl rfl) (fun v μ3 => AW.kI (fun x4 => (?_ : AW _ _ _ _ 24 _ _ _ _ _ _)) v)
  exact AW.reti (by decide +kernel) rfl (by decide) (by decide)
theorem c_Register_setFailed (l : Launch) (hl : l.stackTraces = false) (a1 : Int) (μ : ZMem) (r : ZRes) (h : F_Register_setFailed a1 μ = some r) : ZC l cf_Register_setFailed S_Register2 S_Register2 [zR (some 0), zI a1] μ r := ZC.of hl (by decide +kernel) rfl rfl zft_X4_ok (Nat.le_of_ble_eq_true rfl) h (w_Register_setFailed a1 μ)
/-! WeirLedger$Register.canHandOver(III)Z -/
def cf_Register_canHandOver : ZCf := (yX4_canHandOver, cX4_canHandOver, 4, some .boolean, [], 3, 0, 0, zft_X4, none)
theorem cal_Register_canHandOver : zCallee cf_Register_canHandOver 3 := ⟨rfl, zc_yX4_canHandOver, by decide, by decide, by decide +kernel⟩
def F_Register_canHandOver (a1 : Int) (a2 : Int) (a3 : Int) (μ : ZMem) : Option ZRes := zRd μ 1 6 a1 (fun x1 => if w32 x1 ≤ w32 a3 then (some (.inr (some (zI 0)), μ)) else (zRd μ 1 6 a2 (fun x2 => if w32 9999 < w32 (x2 + a3) then (some (.inr (some (zI 0)), μ)) else (zC (F_Register_hasFailed a1 μ) (zkI (fun x4 μ3 => if w32 x4 = 0 then (zC (F_Register_hasFailed a2 μ3) (zkI (fun x6 μ5 => if w32 x6 = 0 then (some (.inr (some (zI 1)), μ5)) else (some (.inr (some (zI 0)), μ5)))) zX0) else (some (.inr (some (zI 0)), μ3)))) zX0))))
set_option maxRecDepth 100000 in
theorem w_Register_canHandOver (a1 : Int) (a2 : Int) (a3 : Int) (μ : ZMem) : AW cf_Register_canHandOver S_Register2.length S_Register2 S_Register2 0 [(0, zR (some 0)), (1, zI a1), (2, zI a2), (3, zI a3)] [] μ 0 0 (F_Register_canHandOver a1 a2 a3 μ) := by
  unfold F_Register_canHandOver
  refine AW.iload_n (i := 3) (a := a3) (by decide +kernel) rfl (?_ : AW _ _ _ _ 1 _ _ _ _ _ _)
  refine AW.aload_n (i := 0) (a := 0) (by decide +kernel) rfl (?_ : AW _ _ _ _ 2 _ _ _ _ _ _)
  refine AW.getR (idx := 9) (ci := 4) (k := 0) (r := 0) (by decide +kernel) rfl rfl rfl (?_ : AW _ _ _ _ 5 _ _ _ _ _ _)
  refine AW.iload_n (i := 1) (a := a1) (by decide +kernel) rfl (?_ : AW _ _ _ _ 6 _ _ _ _ _ _)
  refine AW.iald (r := 1) (by decide +kernel) rfl (fun x1 => (?_ : AW _ _ _ _ 7 _ _ _ _ _ _))
  refine AW.icmp_ge (off := 37) (tgt := 44) (by decide +kernel) (by decide) (fun _ => ?_) (fun _ => ?_)
  · refine AW.iconst (n := 0) (by decide +kernel) (?_ : AW _ _ _ _ 45 _ _ _ _ _ _)
    exact AW.retb1 (by decide +kernel) rfl (by decide) (by decide) (by decide)
  · refine AW.aload_n (i := 0) (a := 0) (by decide +kernel) rfl (?_ : AW _ _ _ _ 11 _ _ _ _ _ _)
    refine AW.getR (idx := 9) (ci := 4) (k := 0) (r := 0) (by decide +kernel) rfl rfl rfl (?_ : AW _ _ _ _ 14 _ _ _ _ _ _)
    refine AW.iload_n (i := 2) (a := a2) (by decide +kernel) rfl (?_ : AW _ _ _ _ 15 _ _ _ _ _ _)
    refine AW.iald (r := 1) (by decide +kernel) rfl (fun x2 => (?_ : AW _ _ _ _ 16 _ _ _ _ _ _))
    refine AW.iload_n (i := 3) (a := a3) (by decide +kernel) rfl (?_ : AW _ _ _ _ 17 _ _ _ _ _ _)
    refine AW.iadd (by decide +kernel) (?_ : AW _ _ _ _ 18 _ _ _ _ _ _)
    refine AW.sipush (n := 9999) (by decide +kernel) (by decide +kernel) (?_ : AW _ _ _ _ 21 _ _ _ _ _ _)
    refine AW.icmp_gt (off := 23) (tgt := 44) (by decide +kernel) (by decide) (fun _ => ?_) (fun _ => ?_)
    · refine AW.iconst (n := 0) (by decide +kernel) (?_ : AW _ _ _ _ 45 _ _ _ _ _ _)
      exact AW.retb1 (by decide +kernel) rfl (by decide) (by decide) (by decide)
    · refine AW.aload_n (i := 0) (a := 0) (by decide +kernel) rfl (?_ : AW _ _ _ _ 25 _ _ _ _ _ _)
      refine AW.iload_n (i := 1) (a := a1) (by decide +kernel) rfl (?_ : AW _ _ _ _ 26 _ _ _ _ _ _)
      refine AW.callVw (g := cf_Register_hasFailed) (av := [zI a1]) (b0 := 0) (ci := 4) (idx := 78) (n := 1) (st := []) (by decide +kernel) (fun l hl r hr => c_Register_hasFailed l hl a1 _ r hr) S_Register2_wf rfl cal_Register_hasFailed rfl (zw4 zm_X4_78 zi_yX4_hasFailed zs_yX4_hasFailed zn_X4) rfl rfl ⟨by decide, by decide, by decide, by decide⟩ (Nat.le_of_ble_eq_true rfl) (Or.inl rfl) (fun v μ3 => AW.kI (fun x4 => (?_ : AW _ _ _ _ 29 _ _ _ _ _ _)) v)
      refine AW.if_ne (off := 15) (tgt := 44) (by decide +kernel) (by decide) (fun _ => ?_) (fun _ => ?_)
      · refine AW.aload_n (i := 0) (a := 0) (by decide +kernel) rfl (?_ : AW _ _ _ _ 33 _ _ _ _ _ _)
        refine AW.iload_n (i := 2) (a := a2) (by decide +kernel) rfl (?_ : AW _ _ _ _ 34 _ _ _ _ _ _)
        refine AW.callVw (g := cf_Register_hasFailed) (av := [zI a2]) (b0 := 0) (ci := 4) (idx := 78) (n := 1) (st := []) (by decide +kernel) (fun l hl r hr => c_Register_hasFailed l hl a2 _ r hr) S_Register2_wf rfl cal_Register_hasFailed rfl (zw4 zm_X4_78 zi_yX4_hasFailed zs_yX4_hasFailed zn_X4) rfl rfl ⟨by decide, by decide, by decide, by decide⟩ (Nat.le_of_ble_eq_true rfl) (Or.inl rfl) (fun v μ5 => AW.kI (fun x6 => (?_ : AW _ _ _ _ 37 _ _ _ _ _ _)) v)
        refine AW.if_ne (off := 7) (tgt := 44) (by decide +kernel) (by decide) (fun _ => ?_) (fun _ => ?_)
        · refine AW.iconst (n := 1) (by decide +kernel) (?_ : AW _ _ _ _ 41 _ _ _ _ _ _)
          refine AW.goto (off := 4) (tgt := 45) (by decide +kernel) (by decide) ?_
          exact AW.retb1 (by decide +kernel) rfl (by decide) (by decide) (by decide)
        · refine AW.iconst (n := 0) (by decide +kernel) (?_ : AW _ _ _ _ 45 _ _ _ _ _ _)
          exact AW.retb1 (by decide +kernel) rfl (by decide) (by decide) (by decide)
      · refine AW.iconst (n := 0) (by decide +kernel) (?_ : AW _ _ _ _ 45 _ _ _ _ _ _)
        exact AW.retb1 (by decide +kernel) rfl (by decide) (by decide) (by decide)
theorem c_Register_canHandOver (l : Launch) (hl : l.stackTraces = false) (a1 : Int) (a2 : Int) (a3 : Int) (μ : ZMem) (r : ZRes) (h : F_Register_canHandOver a1 a2 a3 μ = some r) : ZC l cf_Register_canHandOver S_Register2 S_Register2 [zR (some 0), zI a1, zI a2, zI a3] μ r := ZC.of hl (by decide +kernel) rfl rfl zft_X4_ok (Nat.le_of_ble_eq_true rfl) h (w_Register_canHandOver a1 a2 a3 μ)
/-! WeirLedger$Register.handOver(III)I -/
def cf_Register_handOver : ZCf := (yX4_handOver, cX4_handOver, 5, some .int, [], 2, 0, 0, zft_X4, none)
theorem cal_Register_handOver : zCallee cf_Register_handOver 3 := ⟨rfl, zc_yX4_handOver, by decide, by decide, by decide +kernel⟩
def J_Register_handOver_32 (a1 : Int) (a2 : Int) (a3 : Int) (y0 : Int) (μ : ZMem) : Option ZRes := zRd μ 2 6 a1 (fun x2 => zWr μ 2 6 a1 (x2 - y0) (fun μ3 => zRd μ3 2 6 a2 (fun x4 => zWr μ3 2 6 a2 (x4 + y0) (fun μ5 => zRd μ5 1 6 a1 (fun x6 => zWr μ5 1 6 a1 (x6 - a3) (fun μ7 => zRd μ7 1 6 a2 (fun x8 => zWr μ7 1 6 a2 (x8 + a3) (fun μ9 => some (.inr (some (zI y0)), μ9)))))))))
set_option maxRecDepth 100000 in
theorem j_Register_handOver_32 (a1 : Int) (a2 : Int) (a3 : Int) (y0 : Int) (μ : ZMem) : AW cf_Register_handOver S_Register2.length S_Register2 S_Register2 32 [(0, zR (some 0)), (1, zI a1), (2, zI a2), (3, zI a3)] [zI y0] μ 0 0 (J_Register_handOver_32 a1 a2 a3 y0 μ) := by
  unfold J_Register_handOver_32
  refine AW.istore' (i := 4) (L' := [(4, zI y0), (0, zR (some 0)), (1, zI a1), (2, zI a2), (3, zI a3)]) (by decide +kernel) (by decide) rfl (?_ : AW _ _ _ _ 34 _ _ _ _ _ _)
  refine AW.aload_n (i := 0) (a := 0) (by decide +kernel) rfl (?_ : AW _ _ _ _ 35 _ _ _ _ _ _)
  refine AW.getR (idx := 15) (ci := 4) (k := 1) (r := 0) (by decide +kernel) rfl rfl rfl (?_ : AW _ _ _ _ 38 _ _ _ _ _ _)
  refine AW.iload_n (i := 1) (a := a1) (by decide +kernel) rfl (?_ : AW _ _ _ _ 39 _ _ _ _ _ _)
  refine AW.dup2 (by decide +kernel) rfl rfl (?_ : AW _ _ _ _ 40 _ _ _ _ _ _)
  refine AW.iald (r := 2) (by decide +kernel) rfl (fun x2 => (?_ : AW _ _ _ _ 41 _ _ _ _ _ _))
  refine AW.iload (i := 4) (a := y0) (by decide +kernel) rfl (?_ : AW _ _ _ _ 43 _ _ _ _ _ _)
  refine AW.isub (by decide +kernel) (?_ : AW _ _ _ _ 44 _ _ _ _ _ _)
  refine AW.iastL (r := 2) (by decide +kernel) rfl (fun μ3 => (?_ : AW _ _ _ _ 45 _ _ _ _ _ _))
  refine AW.aload_n (i := 0) (a := 0) (by decide +kernel) rfl (?_ : AW _ _ _ _ 46 _ _ _ _ _ _)
  refine AW.getR (idx := 15) (ci := 4) (k := 1) (r := 0) (by decide +kernel) rfl rfl rfl (?_ : AW _ _ _ _ 49 _ _ _ _ _ _)
  refine AW.iload_n (i := 2) (a := a2) (by decide +kernel) rfl (?_ : AW _ _ _ _ 50 _ _ _ _ _ _)
  refine AW.dup2 (by decide +kernel) rfl rfl (?_ : AW _ _ _ _ 51 _ _ _ _ _ _)
  refine AW.iald (r := 2) (by decide +kernel) rfl (fun x4 => (?_ : AW _ _ _ _ 52 _ _ _ _ _ _))
  refine AW.iload (i := 4) (a := y0) (by decide +kernel) rfl (?_ : AW _ _ _ _ 54 _ _ _ _ _ _)
  refine AW.iadd (by decide +kernel) (?_ : AW _ _ _ _ 55 _ _ _ _ _ _)
  refine AW.iastL (r := 2) (by decide +kernel) rfl (fun μ5 => (?_ : AW _ _ _ _ 56 _ _ _ _ _ _))
  refine AW.aload_n (i := 0) (a := 0) (by decide +kernel) rfl (?_ : AW _ _ _ _ 57 _ _ _ _ _ _)
  refine AW.getR (idx := 9) (ci := 4) (k := 0) (r := 0) (by decide +kernel) rfl rfl rfl (?_ : AW _ _ _ _ 60 _ _ _ _ _ _)
  refine AW.iload_n (i := 1) (a := a1) (by decide +kernel) rfl (?_ : AW _ _ _ _ 61 _ _ _ _ _ _)
  refine AW.dup2 (by decide +kernel) rfl rfl (?_ : AW _ _ _ _ 62 _ _ _ _ _ _)
  refine AW.iald (r := 1) (by decide +kernel) rfl (fun x6 => (?_ : AW _ _ _ _ 63 _ _ _ _ _ _))
  refine AW.iload_n (i := 3) (a := a3) (by decide +kernel) rfl (?_ : AW _ _ _ _ 64 _ _ _ _ _ _)
  refine AW.isub (by decide +kernel) (?_ : AW _ _ _ _ 65 _ _ _ _ _ _)
  refine AW.iastL (r := 1) (by decide +kernel) rfl (fun μ7 => (?_ : AW _ _ _ _ 66 _ _ _ _ _ _))
  refine AW.aload_n (i := 0) (a := 0) (by decide +kernel) rfl (?_ : AW _ _ _ _ 67 _ _ _ _ _ _)
  refine AW.getR (idx := 9) (ci := 4) (k := 0) (r := 0) (by decide +kernel) rfl rfl rfl (?_ : AW _ _ _ _ 70 _ _ _ _ _ _)
  refine AW.iload_n (i := 2) (a := a2) (by decide +kernel) rfl (?_ : AW _ _ _ _ 71 _ _ _ _ _ _)
  refine AW.dup2 (by decide +kernel) rfl rfl (?_ : AW _ _ _ _ 72 _ _ _ _ _ _)
  refine AW.iald (r := 1) (by decide +kernel) rfl (fun x8 => (?_ : AW _ _ _ _ 73 _ _ _ _ _ _))
  refine AW.iload_n (i := 3) (a := a3) (by decide +kernel) rfl (?_ : AW _ _ _ _ 74 _ _ _ _ _ _)
  refine AW.iadd (by decide +kernel) (?_ : AW _ _ _ _ 75 _ _ _ _ _ _)
  refine AW.iastL (r := 1) (by decide +kernel) rfl (fun μ9 => (?_ : AW _ _ _ _ 76 _ _ _ _ _ _))
  refine AW.iload (i := 4) (a := y0) (by decide +kernel) rfl (?_ : AW _ _ _ _ 78 _ _ _ _ _ _)
  exact AW.reti (by decide +kernel) rfl (by decide) (by decide)
def F_Register_handOver (a1 : Int) (a2 : Int) (a3 : Int) (μ : ZMem) : Option ZRes := zRd μ 1 6 a1 (fun x1 => if w32 x1 ≤ 0 then (J_Register_handOver_32 a1 a2 a3 0 μ) else (zRd μ 2 6 a1 (fun x10 => zRd μ 1 6 a1 (fun x11 => if w64 (w32 x11) = 0 then none else (J_Register_handOver_32 a1 a2 a3 ((w64 ((w32 x10) * (w32 a3))).tdiv (w64 (w32 x11))) μ)))))
set_option maxRecDepth 100000 in
theorem w_Register_handOver (a1 : Int) (a2 : Int) (a3 : Int) (μ : ZMem) : AW cf_Register_handOver S_Register2.length S_Register2 S_Register2 0 [(0, zR (some 0)), (1, zI a1), (2, zI a2), (3, zI a3)] [] μ 0 0 (F_Register_handOver a1 a2 a3 μ) := by
  unfold F_Register_handOver
  refine AW.aload_n (i := 0) (a := 0) (by decide +kernel) rfl (?_ : AW _ _ _ _ 1 _ _ _ _ _ _)
  refine AW.getR (idx := 9) (ci := 4) (k := 0) (r := 0) (by decide +kernel) rfl rfl rfl (?_ : AW _ _ _ _ 4 _ _ _ _ _ _)
  refine AW.iload_n (i := 1) (a := a1) (by decide +kernel) rfl (?_ : AW _ _ _ _ 5 _ _ _ _ _ _)
  refine AW.iald (r := 1) (by decide +kernel) rfl (fun x1 => (?_ : AW _ _ _ _ 6 _ _ _ _ _ _))
  refine AW.if_le (off := 25) (tgt := 31) (by decide +kernel) (by decide) (fun _ => ?_) (fun _ => ?_)
  · refine AW.iconst (n := 0) (by decide +kernel) (?_ : AW _ _ _ _ 32 _ _ _ _ _ _)
    exact j_Register_handOver_32 a1 a2 a3 0 μ
  · refine AW.aload_n (i := 0) (a := 0) (by decide +kernel) rfl (?_ : AW _ _ _ _ 10 _ _ _ _ _ _)
    refine AW.getR (idx := 15) (ci := 4) (k := 1) (r := 0) (by decide +kernel) rfl rfl rfl (?_ : AW _ _ _ _ 13 _ _ _ _ _ _)
    refine AW.iload_n (i := 1) (a := a1) (by decide +kernel) rfl (?_ : AW _ _ _ _ 14 _ _ _ _ _ _)
    refine AW.iald (r := 2) (by decide +kernel) rfl (fun x10 => (?_ : AW _ _ _ _ 15 _ _ _ _ _ _))
    refine AW.i2l (by decide +kernel) (?_ : AW _ _ _ _ 16 _ _ _ _ _ _)
    refine AW.iload_n (i := 3) (a := a3) (by decide +kernel) rfl (?_ : AW _ _ _ _ 17 _ _ _ _ _ _)
    refine AW.i2l (by decide +kernel) (?_ : AW _ _ _ _ 18 _ _ _ _ _ _)
    refine AW.lmul (by decide +kernel) (?_ : AW _ _ _ _ 19 _ _ _ _ _ _)
    refine AW.aload_n (i := 0) (a := 0) (by decide +kernel) rfl (?_ : AW _ _ _ _ 20 _ _ _ _ _ _)
    refine AW.getR (idx := 9) (ci := 4) (k := 0) (r := 0) (by decide +kernel) rfl rfl rfl (?_ : AW _ _ _ _ 23 _ _ _ _ _ _)
    refine AW.iload_n (i := 1) (a := a1) (by decide +kernel) rfl (?_ : AW _ _ _ _ 24 _ _ _ _ _ _)
    refine AW.iald (r := 1) (by decide +kernel) rfl (fun x11 => (?_ : AW _ _ _ _ 25 _ _ _ _ _ _))
    refine AW.i2l (by decide +kernel) (?_ : AW _ _ _ _ 26 _ _ _ _ _ _)
    refine AW.ldiv_if (K := fun _ => _) (by decide +kernel) (?_ : AW _ _ _ _ 27 _ _ _ _ _ _)
    refine AW.l2i (by decide +kernel) (?_ : AW _ _ _ _ 28 _ _ _ _ _ _)
    refine AW.goto (off := 4) (tgt := 32) (by decide +kernel) (by decide) ?_
    exact j_Register_handOver_32 a1 a2 a3 ((w64 ((w32 x10) * (w32 a3))).tdiv (w64 (w32 x11))) μ
theorem c_Register_handOver (l : Launch) (hl : l.stackTraces = false) (a1 : Int) (a2 : Int) (a3 : Int) (μ : ZMem) (r : ZRes) (h : F_Register_handOver a1 a2 a3 μ = some r) : ZC l cf_Register_handOver S_Register2 S_Register2 [zR (some 0), zI a1, zI a2, zI a3] μ r := ZC.of hl (by decide +kernel) rfl rfl zft_X4_ok (Nat.le_of_ble_eq_true rfl) h (w_Register_handOver a1 a2 a3 μ)
def S_Journal : List ZSh := [.inl (2, [(2, some 1), (0, none)]), .inr (0, 420, []), .inl (2, [(2, some 3), (0, none)]), .inr (0, 420, [])]
theorem S_Journal_wf : zWfS S_Journal.length S_Journal = true ∧ Nat.ble S_Journal.length 1000 = true := ⟨by decide +kernel, rfl⟩
/-! WeirLedger$Journal.copyFrom(LWeirLedger$Journal;)V -/
def cf_Journal_copyFrom : ZCf := (yX2_copyFrom, cX2_copyFrom, 2, none, [], 2, 0, 0, zft_X2, none)
theorem cal_Journal_copyFrom : zCallee cf_Journal_copyFrom 1 := ⟨rfl, zc_yX2_copyFrom, by decide, by decide, by decide +kernel⟩
def F_Journal_copyFrom (μ : ZMem) : Option ZRes := zLet (zCopy μ 3 1 420) (fun μ1 => zLet (zUp μ1 0 1 (μ1 2 1)) (fun μ2 => some (.inr none, μ2)))
set_option maxRecDepth 100000 in
theorem w_Journal_copyFrom (μ : ZMem) : AW cf_Journal_copyFrom S_Journal.length S_Journal S_Journal 0 [(0, zR (some 0)), (1, zR (some 2))] [] μ 0 0 (F_Journal_copyFrom μ) := by
  unfold F_Journal_copyFrom
  refine AW.aload_n (i := 1) (a := 2) (by decide +kernel) rfl (?_ : AW _ _ _ _ 1 _ _ _ _ _ _)
  refine AW.getR (idx := 9) (ci := 2) (k := 0) (r := 2) (by decide +kernel) rfl rfl rfl (?_ : AW _ _ _ _ 4 _ _ _ _ _ _)
  refine AW.iconst (n := 0) (by decide +kernel) (?_ : AW _ _ _ _ 5 _ _ _ _ _ _)
  refine AW.aload_n (i := 0) (a := 0) (by decide +kernel) rfl (?_ : AW _ _ _ _ 6 _ _ _ _ _ _)
  refine AW.getR (idx := 9) (ci := 2) (k := 0) (r := 0) (by decide +kernel) rfl rfl rfl (?_ : AW _ _ _ _ 9 _ _ _ _ _ _)
  refine AW.iconst (n := 0) (by decide +kernel) (?_ : AW _ _ _ _ 10 _ _ _ _ _ _)
  refine AW.sipush (n := 420) (by decide +kernel) (by decide +kernel) (?_ : AW _ _ _ _ 13 _ _ _ _ _ _)
  refine AW.copyI (idx := 15) (r0 := 3) (r1 := 1) (n := 420) (by decide +kernel) zm_X2_15 rfl rfl (by decide) (by decide) rfl (fun μ1 => (?_ : AW _ _ _ _ 16 _ _ _ _ _ _))
  refine AW.aload_n (i := 0) (a := 0) (by decide +kernel) rfl (?_ : AW _ _ _ _ 17 _ _ _ _ _ _)
  refine AW.aload_n (i := 1) (a := 2) (by decide +kernel) rfl (?_ : AW _ _ _ _ 18 _ _ _ _ _ _)
  refine AW.getI (idx := 21) (ci := 2) (k := 1) (r := 2) (by decide +kernel) rfl rfl rfl (?_ : AW _ _ _ _ 21 _ _ _ _ _ _)
  refine AW.putiL (idx := 21) (ci := 2) (k := 1) (r := 0) (by decide +kernel) rfl rfl rfl (fun μ2 => (?_ : AW _ _ _ _ 24 _ _ _ _ _ _))
  exact AW.retv (by decide +kernel) rfl (by decide) (by decide)
theorem c_Journal_copyFrom (l : Launch) (hl : l.stackTraces = false) (μ : ZMem) (r : ZRes) (h : F_Journal_copyFrom μ = some r) : ZC l cf_Journal_copyFrom S_Journal S_Journal [zR (some 0), zR (some 2)] μ r := ZC.of hl (by decide +kernel) rfl rfl zft_X2_ok (Nat.le_of_ble_eq_true rfl) h (w_Journal_copyFrom μ)
def S_Journal2 : List ZSh := [.inl (2, [(2, some 1), (0, none)]), .inr (0, 420, [])]
theorem S_Journal2_wf : zWfS S_Journal2.length S_Journal2 = true ∧ Nat.ble S_Journal2.length 1000 = true := ⟨by decide +kernel, rfl⟩
/-! WeirLedger$Journal.write(IIIII)V -/
def cf_Journal_write : ZCf := (yX2_write, cX2_write, 7, none, [], 2, 0, 0, zft_X2, none)
theorem cal_Journal_write : zCallee cf_Journal_write 5 := ⟨rfl, zc_yX2_write, by decide, by decide, by decide +kernel⟩
def F_Journal_write (a1 : Int) (a2 : Int) (a3 : Int) (a4 : Int) (a5 : Int) (μ : ZMem) : Option ZRes := if w32 60 ≤ w32 (μ 0 1) then (some (.inr none, μ)) else (zLet (((μ 0 1) * 7)) (fun x1 => zWr μ 1 420 (x1 + 0) a1 (fun μ2 => zWr μ2 1 420 (x1 + 1) a2 (fun μ3 => zWr μ3 1 420 (x1 + 2) a3 (fun μ4 => zWr μ4 1 420 (x1 + 3) a4 (fun μ5 => zWr μ5 1 420 (x1 + 4) a5 (fun μ6 => zLet (zUp μ6 0 1 ((μ6 0 1) + 1)) (fun μ7 => some (.inr none, μ7)))))))))
set_option maxRecDepth 100000 in
theorem w_Journal_write (a1 : Int) (a2 : Int) (a3 : Int) (a4 : Int) (a5 : Int) (μ : ZMem) : AW cf_Journal_write S_Journal2.length S_Journal2 S_Journal2 0 [(0, zR (some 0)), (1, zI a1), (2, zI a2), (3, zI a3), (4, zI a4), (5, zI a5)] [] μ 0 0 (F_Journal_write a1 a2 a3 a4 a5 μ) := by
  unfold F_Journal_write
  refine AW.aload_n (i := 0) (a := 0) (by decide +kernel) rfl (?_ : AW _ _ _ _ 1 _ _ _ _ _ _)
  refine AW.getI (idx := 21) (ci := 2) (k := 1) (r := 0) (by decide +kernel) rfl rfl rfl (?_ : AW _ _ _ _ 4 _ _ _ _ _ _)
  refine AW.bipush (n := 60) (by decide +kernel) (by decide +kernel) (?_ : AW _ _ _ _ 6 _ _ _ _ _ _)
  refine AW.icmp_ge (off := 74) (tgt := 80) (by decide +kernel) (by decide) (fun _ => ?_) (fun _ => ?_)
  · exact AW.retv (by decide +kernel) rfl (by decide) (by decide)
  · refine AW.aload_n (i := 0) (a := 0) (by decide +kernel) rfl (?_ : AW _ _ _ _ 10 _ _ _ _ _ _)
    refine AW.getI (idx := 21) (ci := 2) (k := 1) (r := 0) (by decide +kernel) rfl rfl rfl (?_ : AW _ _ _ _ 13 _ _ _ _ _ _)
    refine AW.bipush (n := 7) (by decide +kernel) (by decide +kernel) (?_ : AW _ _ _ _ 15 _ _ _ _ _ _)
    refine AW.imul (by decide +kernel) (?_ : AW _ _ _ _ 16 _ _ _ _ _ _)
    refine AW.istoreL (i := 6) (L' := fun x1 => [(6, zI x1), (0, zR (some 0)), (1, zI a1), (2, zI a2), (3, zI a3), (4, zI a4), (5, zI a5)]) (by decide +kernel) (by decide) (fun _ => rfl) (fun x1 => (?_ : AW _ _ _ _ 18 _ _ _ _ _ _))
    refine AW.aload_n (i := 0) (a := 0) (by decide +kernel) rfl (?_ : AW _ _ _ _ 19 _ _ _ _ _ _)
    refine AW.getR (idx := 9) (ci := 2) (k := 0) (r := 0) (by decide +kernel) rfl rfl rfl (?_ : AW _ _ _ _ 22 _ _ _ _ _ _)
    refine AW.iload (i := 6) (a := x1) (by decide +kernel) rfl (?_ : AW _ _ _ _ 24 _ _ _ _ _ _)
    refine AW.iconst (n := 0) (by decide +kernel) (?_ : AW _ _ _ _ 25 _ _ _ _ _ _)
    refine AW.iadd (by decide +kernel) (?_ : AW _ _ _ _ 26 _ _ _ _ _ _)
    refine AW.iload_n (i := 1) (a := a1) (by decide +kernel) rfl (?_ : AW _ _ _ _ 27 _ _ _ _ _ _)
    refine AW.iastL (r := 1) (by decide +kernel) rfl (fun μ2 => (?_ : AW _ _ _ _ 28 _ _ _ _ _ _))
    refine AW.aload_n (i := 0) (a := 0) (by decide +kernel) rfl (?_ : AW _ _ _ _ 29 _ _ _ _ _ _)
    refine AW.getR (idx := 9) (ci := 2) (k := 0) (r := 0) (by decide +kernel) rfl rfl rfl (?_ : AW _ _ _ _ 32 _ _ _ _ _ _)
    refine AW.iload (i := 6) (a := x1) (by decide +kernel) rfl (?_ : AW _ _ _ _ 34 _ _ _ _ _ _)
    refine AW.iconst (n := 1) (by decide +kernel) (?_ : AW _ _ _ _ 35 _ _ _ _ _ _)
    refine AW.iadd (by decide +kernel) (?_ : AW _ _ _ _ 36 _ _ _ _ _ _)
    refine AW.iload_n (i := 2) (a := a2) (by decide +kernel) rfl (?_ : AW _ _ _ _ 37 _ _ _ _ _ _)
    refine AW.iastL (r := 1) (by decide +kernel) rfl (fun μ3 => (?_ : AW _ _ _ _ 38 _ _ _ _ _ _))
    refine AW.aload_n (i := 0) (a := 0) (by decide +kernel) rfl (?_ : AW _ _ _ _ 39 _ _ _ _ _ _)
    refine AW.getR (idx := 9) (ci := 2) (k := 0) (r := 0) (by decide +kernel) rfl rfl rfl (?_ : AW _ _ _ _ 42 _ _ _ _ _ _)
    refine AW.iload (i := 6) (a := x1) (by decide +kernel) rfl (?_ : AW _ _ _ _ 44 _ _ _ _ _ _)
    refine AW.iconst (n := 2) (by decide +kernel) (?_ : AW _ _ _ _ 45 _ _ _ _ _ _)
    refine AW.iadd (by decide +kernel) (?_ : AW _ _ _ _ 46 _ _ _ _ _ _)
    refine AW.iload_n (i := 3) (a := a3) (by decide +kernel) rfl (?_ : AW _ _ _ _ 47 _ _ _ _ _ _)
    refine AW.iastL (r := 1) (by decide +kernel) rfl (fun μ4 => (?_ : AW _ _ _ _ 48 _ _ _ _ _ _))
    refine AW.aload_n (i := 0) (a := 0) (by decide +kernel) rfl (?_ : AW _ _ _ _ 49 _ _ _ _ _ _)
    refine AW.getR (idx := 9) (ci := 2) (k := 0) (r := 0) (by decide +kernel) rfl rfl rfl (?_ : AW _ _ _ _ 52 _ _ _ _ _ _)
    refine AW.iload (i := 6) (a := x1) (by decide +kernel) rfl (?_ : AW _ _ _ _ 54 _ _ _ _ _ _)
    refine AW.iconst (n := 3) (by decide +kernel) (?_ : AW _ _ _ _ 55 _ _ _ _ _ _)
    refine AW.iadd (by decide +kernel) (?_ : AW _ _ _ _ 56 _ _ _ _ _ _)
    refine AW.iload (i := 4) (a := a4) (by decide +kernel) rfl (?_ : AW _ _ _ _ 58 _ _ _ _ _ _)
    refine AW.iastL (r := 1) (by decide +kernel) rfl (fun μ5 => (?_ : AW _ _ _ _ 59 _ _ _ _ _ _))
    refine AW.aload_n (i := 0) (a := 0) (by decide +kernel) rfl (?_ : AW _ _ _ _ 60 _ _ _ _ _ _)
    refine AW.getR (idx := 9) (ci := 2) (k := 0) (r := 0) (by decide +kernel) rfl rfl rfl (?_ : AW _ _ _ _ 63 _ _ _ _ _ _)
    refine AW.iload (i := 6) (a := x1) (by decide +kernel) rfl (?_ : AW _ _ _ _ 65 _ _ _ _ _ _)
    refine AW.iconst (n := 4) (by decide +kernel) (?_ : AW _ _ _ _ 66 _ _ _ _ _ _)
    refine AW.iadd (by decide +kernel) (?_ : AW _ _ _ _ 67 _ _ _ _ _ _)
    refine AW.iload (i := 5) (a := a5) (by decide +kernel) rfl (?_ : AW _ _ _ _ 69 _ _ _ _ _ _)
    refine AW.iastL (r := 1) (by decide +kernel) rfl (fun μ6 => (?_ : AW _ _ _ _ 70 _ _ _ _ _ _))
    refine AW.aload_n (i := 0) (a := 0) (by decide +kernel) rfl (?_ : AW _ _ _ _ 71 _ _ _ _ _ _)
    refine AW.dup (by decide +kernel) rfl (?_ : AW _ _ _ _ 72 _ _ _ _ _ _)
    refine AW.getI (idx := 21) (ci := 2) (k := 1) (r := 0) (by decide +kernel) rfl rfl rfl (?_ : AW _ _ _ _ 75 _ _ _ _ _ _)
    refine AW.iconst (n := 1) (by decide +kernel) (?_ : AW _ _ _ _ 76 _ _ _ _ _ _)
    refine AW.iadd (by decide +kernel) (?_ : AW _ _ _ _ 77 _ _ _ _ _ _)
    refine AW.putiL (idx := 21) (ci := 2) (k := 1) (r := 0) (by decide +kernel) rfl rfl rfl (fun μ7 => (?_ : AW _ _ _ _ 80 _ _ _ _ _ _))
    exact AW.retv (by decide +kernel) rfl (by decide) (by decide)
theorem c_Journal_write (l : Launch) (hl : l.stackTraces = false) (a1 : Int) (a2 : Int) (a3 : Int) (a4 : Int) (a5 : Int) (μ : ZMem) (r : ZRes) (h : F_Journal_write a1 a2 a3 a4 a5 μ = some r) : ZC l cf_Journal_write S_Journal2 S_Journal2 [zR (some 0), zI a1, zI a2, zI a3, zI a4, zI a5] μ r := ZC.of hl (by decide +kernel) rfl rfl zft_X2_ok (Nat.le_of_ble_eq_true rfl) h (w_Journal_write a1 a2 a3 a4 a5 μ)
/-! WeirLedger$Journal.writeComing(II)V -/
def cf_Journal_writeComing : ZCf := (yX2_writeComing, cX2_writeComing, 4, none, [], 2, 0, 0, zft_X2, none)
theorem cal_Journal_writeComing : zCallee cf_Journal_writeComing 2 := ⟨rfl, zc_yX2_writeComing, by decide, by decide, by decide +kernel⟩
def F_Journal_writeComing (a1 : Int) (a2 : Int) (μ : ZMem) : Option ZRes := if w32 (μ 0 1) ≤ 0 then (some (.inr none, μ)) else (zLet ((((μ 0 1) - 1) * 7)) (fun x1 => zWr μ 1 420 (x1 + 5) a1 (fun μ2 => zWr μ2 1 420 (x1 + 6) a2 (fun μ3 => some (.inr none, μ3)))))
set_option maxRecDepth 100000 in
theorem w_Journal_writeComing (a1 : Int) (a2 : Int) (μ : ZMem) : AW cf_Journal_writeComing S_Journal2.length S_Journal2 S_Journal2 0 [(0, zR (some 0)), (1, zI a1), (2, zI a2)] [] μ 0 0 (F_Journal_writeComing a1 a2 μ) := by
  unfold F_Journal_writeComing
  refine AW.aload_n (i := 0) (a := 0) (by decide +kernel) rfl (?_ : AW _ _ _ _ 1 _ _ _ _ _ _)
  refine AW.getI (idx := 21) (ci := 2) (k := 1) (r := 0) (by decide +kernel) rfl rfl rfl (?_ : AW _ _ _ _ 4 _ _ _ _ _ _)
  refine AW.if_le (off := 32) (tgt := 36) (by decide +kernel) (by decide) (fun _ => ?_) (fun _ => ?_)
  · exact AW.retv (by decide +kernel) rfl (by decide) (by decide)
  · refine AW.aload_n (i := 0) (a := 0) (by decide +kernel) rfl (?_ : AW _ _ _ _ 8 _ _ _ _ _ _)
    refine AW.getI (idx := 21) (ci := 2) (k := 1) (r := 0) (by decide +kernel) rfl rfl rfl (?_ : AW _ _ _ _ 11 _ _ _ _ _ _)
    refine AW.iconst (n := 1) (by decide +kernel) (?_ : AW _ _ _ _ 12 _ _ _ _ _ _)
    refine AW.isub (by decide +kernel) (?_ : AW _ _ _ _ 13 _ _ _ _ _ _)
    refine AW.bipush (n := 7) (by decide +kernel) (by decide +kernel) (?_ : AW _ _ _ _ 15 _ _ _ _ _ _)
    refine AW.imul (by decide +kernel) (?_ : AW _ _ _ _ 16 _ _ _ _ _ _)
    refine AW.istoreL_n (i := 3) (L' := fun x1 => [(3, zI x1), (0, zR (some 0)), (1, zI a1), (2, zI a2)]) (by decide +kernel) (by decide) (fun _ => rfl) (fun x1 => (?_ : AW _ _ _ _ 17 _ _ _ _ _ _))
    refine AW.aload_n (i := 0) (a := 0) (by decide +kernel) rfl (?_ : AW _ _ _ _ 18 _ _ _ _ _ _)
    refine AW.getR (idx := 9) (ci := 2) (k := 0) (r := 0) (by decide +kernel) rfl rfl rfl (?_ : AW _ _ _ _ 21 _ _ _ _ _ _)
    refine AW.iload_n (i := 3) (a := x1) (by decide +kernel) rfl (?_ : AW _ _ _ _ 22 _ _ _ _ _ _)
    refine AW.iconst (n := 5) (by decide +kernel) (?_ : AW _ _ _ _ 23 _ _ _ _ _ _)
    refine AW.iadd (by decide +kernel) (?_ : AW _ _ _ _ 24 _ _ _ _ _ _)
    refine AW.iload_n (i := 1) (a := a1) (by decide +kernel) rfl (?_ : AW _ _ _ _ 25 _ _ _ _ _ _)
    refine AW.iastL (r := 1) (by decide +kernel) rfl (fun μ2 => (?_ : AW _ _ _ _ 26 _ _ _ _ _ _))
    refine AW.aload_n (i := 0) (a := 0) (by decide +kernel) rfl (?_ : AW _ _ _ _ 27 _ _ _ _ _ _)
    refine AW.getR (idx := 9) (ci := 2) (k := 0) (r := 0) (by decide +kernel) rfl rfl rfl (?_ : AW _ _ _ _ 30 _ _ _ _ _ _)
    refine AW.iload_n (i := 3) (a := x1) (by decide +kernel) rfl (?_ : AW _ _ _ _ 31 _ _ _ _ _ _)
    refine AW.bipush (n := 6) (by decide +kernel) (by decide +kernel) (?_ : AW _ _ _ _ 33 _ _ _ _ _ _)
    refine AW.iadd (by decide +kernel) (?_ : AW _ _ _ _ 34 _ _ _ _ _ _)
    refine AW.iload_n (i := 2) (a := a2) (by decide +kernel) rfl (?_ : AW _ _ _ _ 35 _ _ _ _ _ _)
    refine AW.iastL (r := 1) (by decide +kernel) rfl (fun μ3 => (?_ : AW _ _ _ _ 36 _ _ _ _ _ _))
    exact AW.retv (by decide +kernel) rfl (by decide) (by decide)
theorem c_Journal_writeComing (l : Launch) (hl : l.stackTraces = false) (a1 : Int) (a2 : Int) (μ : ZMem) (r : ZRes) (h : F_Journal_writeComing a1 a2 μ = some r) : ZC l cf_Journal_writeComing S_Journal2 S_Journal2 [zR (some 0), zI a1, zI a2] μ r := ZC.of hl (by decide +kernel) rfl rfl zft_X2_ok (Nat.le_of_ble_eq_true rfl) h (w_Journal_writeComing a1 a2 μ)
def S_Trace : List ZSh := [.inl (7, [(2, some 1), (2, some 2)]), .inr (1, 1407, []), .inr (1, 201, [])]
theorem S_Trace_wf : zWfS S_Trace.length S_Trace = true ∧ Nat.ble S_Trace.length 1000 = true := ⟨by decide +kernel, rfl⟩
def S_A6 : List ZSh := [.inr (1, 1407, [])]
theorem S_A6_wf : zWfS S_A6.length S_A6 = true ∧ Nat.ble S_A6.length 1000 = true := ⟨by decide +kernel, rfl⟩
/-! java/util/Arrays.fill([JJ)V -/
def cf_Arrays_fill_w6 : ZCf := (yJ7_fill_d0a16, cJ7_fill_d0a16, 5, none, [], 2, 0, 0, [], none)
theorem cal_Arrays_fill_w6 : zCallee cf_Arrays_fill_w6 2 := ⟨rfl, zc_yJ7_fill_d0a16, by decide, by decide, by decide +kernel⟩
def L_Arrays_fill_w6_6 (c1 : Int) (K : ZMem → Option ZRes) : Nat → Int → ZMem → Option ZRes
  | 0, _, _ => none
  | n + 1, v3, μ => if w32 1407 ≤ w32 v3 then (K  μ) else (zWr μ 0 1407 v3 c1 (fun μ1 => zLet (v3 + 1) (fun x2 => L_Arrays_fill_w6_6 c1 K n x2 μ1)))
set_option maxRecDepth 100000 in
theorem l_Arrays_fill_w6_6 {c1 : Int} {K : ZMem → Option ZRes} (hK : ∀ (μ : ZMem), AW cf_Arrays_fill_w6 S_A6.length S_A6 S_A6 22 [] [] μ 0 0 (K μ)) : ∀ (n : Nat) (v3 : Int) (μ : ZMem), AW cf_Arrays_fill_w6 S_A6.length S_A6 S_A6 6 [(0, zR (some 0)), (1, zJ c1), (3, zI v3), (4, zI 1407)] [] μ 0 0 (L_Arrays_fill_w6_6 c1 K n v3 μ) := by
  intro n
  induction n with
  | zero => intro v3 μ; exact AW.noth
  | succ n ih =>
    intro v3 μ
    rw [L_Arrays_fill_w6_6]
    refine AW.iload_n (i := 3) (a := v3) (by decide +kernel) rfl (?_ : AW _ _ _ _ 7 _ _ _ _ _ _)
    refine AW.iload (i := 4) (a := 1407) (by decide +kernel) rfl (?_ : AW _ _ _ _ 9 _ _ _ _ _ _)
    refine AW.icmp_ge (off := 13) (tgt := 22) (by decide +kernel) (by decide) (fun _ => ?_) (fun _ => ?_)
    · refine AW.sub (L' := []) [] rfl ?_
      exact hK  μ
    · refine AW.aload_n (i := 0) (a := 0) (by decide +kernel) rfl (?_ : AW _ _ _ _ 13 _ _ _ _ _ _)
      refine AW.iload_n (i := 3) (a := v3) (by decide +kernel) rfl (?_ : AW _ _ _ _ 14 _ _ _ _ _ _)
      refine AW.lload_n (i := 1) (a := c1) (by decide +kernel) rfl (?_ : AW _ _ _ _ 15 _ _ _ _ _ _)
      refine AW.lastL (r := 0) (by decide +kernel) rfl (fun μ1 => (?_ : AW _ _ _ _ 16 _ _ _ _ _ _))
      refine AW.iincL (i := 3) (n := 1) (a := v3) (L' := fun x2 => [(3, zI x2), (0, zR (some 0)), (1, zJ c1), (4, zI 1407)]) (by decide +kernel) rfl (by decide) (fun _ => rfl) (fun x2 => (?_ : AW _ _ _ _ 19 _ _ _ _ _ _))
      refine AW.goto (off := -13) (tgt := 6) (by decide +kernel) (by decide) ?_
      refine AW.sub (L' := [(0, zR (some 0)), (1, zJ c1), (3, zI x2), (4, zI 1407)]) [1, 2, 0, 3] rfl ?_
      exact ih x2 μ1
def F_Arrays_fill_w6 (a1 : Int) (μ : ZMem) : Option ZRes := L_Arrays_fill_w6_6 a1 (fun μ3 => some (.inr none, μ3)) zN 0 μ
set_option maxRecDepth 100000 in
theorem w_Arrays_fill_w6 (a1 : Int) (μ : ZMem) : AW cf_Arrays_fill_w6 S_A6.length S_A6 S_A6 0 [(0, zR (some 0)), (1, zJ a1)] [] μ 0 0 (F_Arrays_fill_w6 a1 μ) := by
  unfold F_Arrays_fill_w6
  refine AW.iconst (n := 0) (by decide +kernel) (?_ : AW _ _ _ _ 1 _ _ _ _ _ _)
  refine AW.istore_n' (i := 3) (L' := [(3, zI 0), (0, zR (some 0)), (1, zJ a1)]) (by decide +kernel) (by decide) rfl (?_ : AW _ _ _ _ 2 _ _ _ _ _ _)
  refine AW.aload_n (i := 0) (a := 0) (by decide +kernel) rfl (?_ : AW _ _ _ _ 3 _ _ _ _ _ _)
  refine AW.alen (r := 0) (by decide +kernel) rfl (by decide) (?_ : AW _ _ _ _ 4 _ _ _ _ _ _)
  refine AW.istore' (i := 4) (L' := [(4, zI 1407), (3, zI 0), (0, zR (some 0)), (1, zJ a1)]) (by decide +kernel) (by decide) rfl (?_ : AW _ _ _ _ 6 _ _ _ _ _ _)
  refine AW.sub (L' := [(0, zR (some 0)), (1, zJ a1), (3, zI 0), (4, zI 1407)]) [2, 3, 1, 0] rfl ?_
  refine l_Arrays_fill_w6_6 (fun μ3 => ?_) zN _ _
  exact AW.retv (by decide +kernel) rfl (by decide) (by decide)
theorem c_Arrays_fill_w6 (l : Launch) (hl : l.stackTraces = false) (a1 : Int) (μ : ZMem) (r : ZRes) (h : F_Arrays_fill_w6 a1 μ = some r) : ZC l cf_Arrays_fill_w6 S_A6 S_A6 [zR (some 0), zJ a1] μ r := ZC.of hl (by decide +kernel) rfl rfl (fun _ h => absurd h List.not_mem_nil) (Nat.le_of_ble_eq_true rfl) h (w_Arrays_fill_w6 a1 μ)
theorem sb_5 : zSub S_Trace [1] S_A6 := ⟨rfl, by decide +kernel, by decide +kernel, rfl⟩
def S_A7 : List ZSh := [.inr (1, 201, [])]
theorem S_A7_wf : zWfS S_A7.length S_A7 = true ∧ Nat.ble S_A7.length 1000 = true := ⟨by decide +kernel, rfl⟩
/-! java/util/Arrays.fill([JJ)V -/
def cf_Arrays_fill_w7 : ZCf := (yJ7_fill_d0a16, cJ7_fill_d0a16, 5, none, [], 2, 0, 0, [], none)
theorem cal_Arrays_fill_w7 : zCallee cf_Arrays_fill_w7 2 := ⟨rfl, zc_yJ7_fill_d0a16, by decide, by decide, by decide +kernel⟩
def L_Arrays_fill_w7_6 (c1 : Int) (K : ZMem → Option ZRes) : Nat → Int → ZMem → Option ZRes
  | 0, _, _ => none
  | n + 1, v3, μ => if w32 201 ≤ w32 v3 then (K  μ) else (zWr μ 0 201 v3 c1 (fun μ1 => zLet (v3 + 1) (fun x2 => L_Arrays_fill_w7_6 c1 K n x2 μ1)))
set_option maxRecDepth 100000 in
theorem l_Arrays_fill_w7_6 {c1 : Int} {K : ZMem → Option ZRes} (hK : ∀ (μ : ZMem), AW cf_Arrays_fill_w7 S_A7.length S_A7 S_A7 22 [] [] μ 0 0 (K μ)) : ∀ (n : Nat) (v3 : Int) (μ : ZMem), AW cf_Arrays_fill_w7 S_A7.length S_A7 S_A7 6 [(0, zR (some 0)), (1, zJ c1), (3, zI v3), (4, zI 201)] [] μ 0 0 (L_Arrays_fill_w7_6 c1 K n v3 μ) := by
  intro n
  induction n with
  | zero => intro v3 μ; exact AW.noth
  | succ n ih =>
    intro v3 μ
    rw [L_Arrays_fill_w7_6]
    refine AW.iload_n (i := 3) (a := v3) (by decide +kernel) rfl (?_ : AW _ _ _ _ 7 _ _ _ _ _ _)
    refine AW.iload (i := 4) (a := 201) (by decide +kernel) rfl (?_ : AW _ _ _ _ 9 _ _ _ _ _ _)
    refine AW.icmp_ge (off := 13) (tgt := 22) (by decide +kernel) (by decide) (fun _ => ?_) (fun _ => ?_)
    · refine AW.sub (L' := []) [] rfl ?_
      exact hK  μ
    · refine AW.aload_n (i := 0) (a := 0) (by decide +kernel) rfl (?_ : AW _ _ _ _ 13 _ _ _ _ _ _)
      refine AW.iload_n (i := 3) (a := v3) (by decide +kernel) rfl (?_ : AW _ _ _ _ 14 _ _ _ _ _ _)
      refine AW.lload_n (i := 1) (a := c1) (by decide +kernel) rfl (?_ : AW _ _ _ _ 15 _ _ _ _ _ _)
      refine AW.lastL (r := 0) (by decide +kernel) rfl (fun μ1 => (?_ : AW _ _ _ _ 16 _ _ _ _ _ _))
      refine AW.iincL (i := 3) (n := 1) (a := v3) (L' := fun x2 => [(3, zI x2), (0, zR (some 0)), (1, zJ c1), (4, zI 201)]) (by decide +kernel) rfl (by decide) (fun _ => rfl) (fun x2 => (?_ : AW _ _ _ _ 19 _ _ _ _ _ _))
      refine AW.goto (off := -13) (tgt := 6) (by decide +kernel) (by decide) ?_
      refine AW.sub (L' := [(0, zR (some 0)), (1, zJ c1), (3, zI x2), (4, zI 201)]) [1, 2, 0, 3] rfl ?_
      exact ih x2 μ1
def F_Arrays_fill_w7 (a1 : Int) (μ : ZMem) : Option ZRes := L_Arrays_fill_w7_6 a1 (fun μ3 => some (.inr none, μ3)) zN 0 μ
set_option maxRecDepth 100000 in
theorem w_Arrays_fill_w7 (a1 : Int) (μ : ZMem) : AW cf_Arrays_fill_w7 S_A7.length S_A7 S_A7 0 [(0, zR (some 0)), (1, zJ a1)] [] μ 0 0 (F_Arrays_fill_w7 a1 μ) := by
  unfold F_Arrays_fill_w7
  refine AW.iconst (n := 0) (by decide +kernel) (?_ : AW _ _ _ _ 1 _ _ _ _ _ _)
  refine AW.istore_n' (i := 3) (L' := [(3, zI 0), (0, zR (some 0)), (1, zJ a1)]) (by decide +kernel) (by decide) rfl (?_ : AW _ _ _ _ 2 _ _ _ _ _ _)
  refine AW.aload_n (i := 0) (a := 0) (by decide +kernel) rfl (?_ : AW _ _ _ _ 3 _ _ _ _ _ _)
  refine AW.alen (r := 0) (by decide +kernel) rfl (by decide) (?_ : AW _ _ _ _ 4 _ _ _ _ _ _)
  refine AW.istore' (i := 4) (L' := [(4, zI 201), (3, zI 0), (0, zR (some 0)), (1, zJ a1)]) (by decide +kernel) (by decide) rfl (?_ : AW _ _ _ _ 6 _ _ _ _ _ _)
  refine AW.sub (L' := [(0, zR (some 0)), (1, zJ a1), (3, zI 0), (4, zI 201)]) [2, 3, 1, 0] rfl ?_
  refine l_Arrays_fill_w7_6 (fun μ3 => ?_) zN _ _
  exact AW.retv (by decide +kernel) rfl (by decide) (by decide)
theorem c_Arrays_fill_w7 (l : Launch) (hl : l.stackTraces = false) (a1 : Int) (μ : ZMem) (r : ZRes) (h : F_Arrays_fill_w7 a1 μ = some r) : ZC l cf_Arrays_fill_w7 S_A7 S_A7 [zR (some 0), zJ a1] μ r := ZC.of hl (by decide +kernel) rfl rfl (fun _ h => absurd h List.not_mem_nil) (Nat.le_of_ble_eq_true rfl) h (w_Arrays_fill_w7 a1 μ)
theorem sb_6 : zSub S_Trace [2] S_A7 := ⟨rfl, by decide +kernel, by decide +kernel, rfl⟩
/-! WeirLedger$Trace.clear()V -/
def cf_Trace_clear : ZCf := (yX7_clear, cX7_clear, 1, none, [], 3, 0, 0, zft_X7, none)
theorem cal_Trace_clear : zCallee cf_Trace_clear 0 := ⟨rfl, zc_yX7_clear, by decide, by decide, by decide +kernel⟩
def F_Trace_clear (μ : ZMem) : Option ZRes := zCm [1] μ (F_Arrays_fill_w6 0 (zVw [1] μ)) (zkV (fun μ1 => zCm [2] μ1 (F_Arrays_fill_w7 0 (zVw [2] μ1)) (zkV (fun μ3 => some (.inr none, μ3))) zX0)) zX0
set_option maxRecDepth 100000 in
theorem w_Trace_clear (μ : ZMem) : AW cf_Trace_clear S_Trace.length S_Trace S_Trace 0 [(0, zR (some 0))] [] μ 0 0 (F_Trace_clear μ) := by
  unfold F_Trace_clear
  refine AW.aload_n (i := 0) (a := 0) (by decide +kernel) rfl (?_ : AW _ _ _ _ 1 _ _ _ _ _ _)
  refine AW.getR (idx := 11) (ci := 7) (k := 0) (r := 0) (by decide +kernel) rfl rfl rfl (?_ : AW _ _ _ _ 4 _ _ _ _ _ _)
  refine AW.lconst0 (by decide +kernel) (?_ : AW _ _ _ _ 5 _ _ _ _ _ _)
  refine AW.callSm (g := cf_Arrays_fill_w6) (Sg := S_A6) (pl := [1]) (av := [zR (some 0), zJ 0]) (idx := 18) (n := 2) (st := []) (by decide +kernel) (fun l hl r hr => c_Arrays_fill_w6 l hl 0 _ r hr) sb_5 rfl cal_Arrays_fill_w6 rfl (zw3 zm_X7_18 zt_yJ7_fill_d0a16 zn_J7) ⟨by decide, by decide, by decide, by decide⟩ (Nat.le_of_ble_eq_true rfl) (Or.inl rfl) (fun v μ1 => AW.rV (?_ : AW _ _ _ _ 8 _ _ _ _ _ _) v)
  refine AW.aload_n (i := 0) (a := 0) (by decide +kernel) rfl (?_ : AW _ _ _ _ 9 _ _ _ _ _ _)
  refine AW.getR (idx := 15) (ci := 7) (k := 1) (r := 0) (by decide +kernel) rfl rfl rfl (?_ : AW _ _ _ _ 12 _ _ _ _ _ _)
  refine AW.lconst0 (by decide +kernel) (?_ : AW _ _ _ _ 13 _ _ _ _ _ _)
  refine AW.callSm (g := cf_Arrays_fill_w7) (Sg := S_A7) (pl := [2]) (av := [zR (some 0), zJ 0]) (idx := 18) (n := 2) (st := []) (by decide +kernel) (fun l hl r hr => c_Arrays_fill_w7 l hl 0 _ r hr) sb_6 rfl cal_Arrays_fill_w7 rfl (zw3 zm_X7_18 zt_yJ7_fill_d0a16 zn_J7) ⟨by decide, by decide, by decide, by decide⟩ (Nat.le_of_ble_eq_true rfl) (Or.inl rfl) (fun v μ3 => AW.rV (?_ : AW _ _ _ _ 16 _ _ _ _ _ _) v)
  exact AW.retv (by decide +kernel) rfl (by decide) (by decide)
theorem c_Trace_clear (l : Launch) (hl : l.stackTraces = false) (μ : ZMem) (r : ZRes) (h : F_Trace_clear μ = some r) : ZC l cf_Trace_clear S_Trace S_Trace [zR (some 0)] μ r := ZC.of hl (by decide +kernel) rfl rfl zft_X7_ok (Nat.le_of_ble_eq_true rfl) h (w_Trace_clear μ)
/-! WeirLedger$Trace.add(IIJ)V -/
def cf_Trace_add : ZCf := (yX7_add, cX7_add, 5, none, [], 2, 0, 0, zft_X7, none)
theorem cal_Trace_add : zCallee cf_Trace_add 3 := ⟨rfl, zc_yX7_add, by decide, by decide, by decide +kernel⟩
def F_Trace_add (a1 : Int) (a2 : Int) (a3 : Int) (μ : ZMem) : Option ZRes := zRd μ 1 1407 ((a1 * 201) + a2) (fun x1 => zWr μ 1 1407 ((a1 * 201) + a2) (x1 + a3) (fun μ2 => zRd μ2 1 1407 (1206 + a2) (fun x3 => zWr μ2 1 1407 (1206 + a2) (x3 + a3) (fun μ4 => some (.inr none, μ4)))))
set_option maxRecDepth 100000 in
theorem w_Trace_add (a1 : Int) (a2 : Int) (a3 : Int) (μ : ZMem) : AW cf_Trace_add S_Trace.length S_Trace S_Trace 0 [(0, zR (some 0)), (1, zI a1), (2, zI a2), (3, zJ a3)] [] μ 0 0 (F_Trace_add a1 a2 a3 μ) := by
  unfold F_Trace_add
  refine AW.aload_n (i := 0) (a := 0) (by decide +kernel) rfl (?_ : AW _ _ _ _ 1 _ _ _ _ _ _)
  refine AW.getR (idx := 11) (ci := 7) (k := 0) (r := 0) (by decide +kernel) rfl rfl rfl (?_ : AW _ _ _ _ 4 _ _ _ _ _ _)
  refine AW.iload_n (i := 1) (a := a1) (by decide +kernel) rfl (?_ : AW _ _ _ _ 5 _ _ _ _ _ _)
  refine AW.sipush (n := 201) (by decide +kernel) (by decide +kernel) (?_ : AW _ _ _ _ 8 _ _ _ _ _ _)
  refine AW.imul (by decide +kernel) (?_ : AW _ _ _ _ 9 _ _ _ _ _ _)
  refine AW.iload_n (i := 2) (a := a2) (by decide +kernel) rfl (?_ : AW _ _ _ _ 10 _ _ _ _ _ _)
  refine AW.iadd (by decide +kernel) (?_ : AW _ _ _ _ 11 _ _ _ _ _ _)
  refine AW.dup2 (by decide +kernel) rfl rfl (?_ : AW _ _ _ _ 12 _ _ _ _ _ _)
  refine AW.lald (r := 1) (by decide +kernel) rfl (fun x1 => (?_ : AW _ _ _ _ 13 _ _ _ _ _ _))
  refine AW.lload_n (i := 3) (a := a3) (by decide +kernel) rfl (?_ : AW _ _ _ _ 14 _ _ _ _ _ _)
  refine AW.ladd (by decide +kernel) (?_ : AW _ _ _ _ 15 _ _ _ _ _ _)
  refine AW.lastL (r := 1) (by decide +kernel) rfl (fun μ2 => (?_ : AW _ _ _ _ 16 _ _ _ _ _ _))
  refine AW.aload_n (i := 0) (a := 0) (by decide +kernel) rfl (?_ : AW _ _ _ _ 17 _ _ _ _ _ _)
  refine AW.getR (idx := 11) (ci := 7) (k := 0) (r := 0) (by decide +kernel) rfl rfl rfl (?_ : AW _ _ _ _ 20 _ _ _ _ _ _)
  refine AW.sipush (n := 1206) (by decide +kernel) (by decide +kernel) (?_ : AW _ _ _ _ 23 _ _ _ _ _ _)
  refine AW.iload_n (i := 2) (a := a2) (by decide +kernel) rfl (?_ : AW _ _ _ _ 24 _ _ _ _ _ _)
  refine AW.iadd (by decide +kernel) (?_ : AW _ _ _ _ 25 _ _ _ _ _ _)
  refine AW.dup2 (by decide +kernel) rfl rfl (?_ : AW _ _ _ _ 26 _ _ _ _ _ _)
  refine AW.lald (r := 1) (by decide +kernel) rfl (fun x3 => (?_ : AW _ _ _ _ 27 _ _ _ _ _ _))
  refine AW.lload_n (i := 3) (a := a3) (by decide +kernel) rfl (?_ : AW _ _ _ _ 28 _ _ _ _ _ _)
  refine AW.ladd (by decide +kernel) (?_ : AW _ _ _ _ 29 _ _ _ _ _ _)
  refine AW.lastL (r := 1) (by decide +kernel) rfl (fun μ4 => (?_ : AW _ _ _ _ 30 _ _ _ _ _ _))
  exact AW.retv (by decide +kernel) rfl (by decide) (by decide)
theorem c_Trace_add (l : Launch) (hl : l.stackTraces = false) (a1 : Int) (a2 : Int) (a3 : Int) (μ : ZMem) (r : ZRes) (h : F_Trace_add a1 a2 a3 μ = some r) : ZC l cf_Trace_add S_Trace S_Trace [zR (some 0), zI a1, zI a2, zJ a3] μ r := ZC.of hl (by decide +kernel) rfl rfl zft_X7_ok (Nat.le_of_ble_eq_true rfl) h (w_Trace_add a1 a2 a3 μ)
/-! WeirLedger$Trace.flow(II)J -/
def cf_Trace_flow : ZCf := (yX7_flow, cX7_flow, 3, some .long, [], 2, 0, 0, zft_X7, none)
theorem cal_Trace_flow : zCallee cf_Trace_flow 2 := ⟨rfl, zc_yX7_flow, by decide, by decide, by decide +kernel⟩
def F_Trace_flow (a1 : Int) (a2 : Int) (μ : ZMem) : Option ZRes := zRd μ 1 1407 ((a1 * 201) + a2) (fun x1 => some (.inr (some (zJ x1)), μ))
set_option maxRecDepth 100000 in
theorem w_Trace_flow (a1 : Int) (a2 : Int) (μ : ZMem) : AW cf_Trace_flow S_Trace.length S_Trace S_Trace 0 [(0, zR (some 0)), (1, zI a1), (2, zI a2)] [] μ 0 0 (F_Trace_flow a1 a2 μ) := by
  unfold F_Trace_flow
  refine AW.aload_n (i := 0) (a := 0) (by decide +kernel) rfl (?_ : AW _ _ _ _ 1 _ _ _ _ _ _)
  refine AW.getR (idx := 11) (ci := 7) (k := 0) (r := 0) (by decide +kernel) rfl rfl rfl (?_ : AW _ _ _ _ 4 _ _ _ _ _ _)
  refine AW.iload_n (i := 1) (a := a1) (by decide +kernel) rfl (?_ : AW _ _ _ _ 5 _ _ _ _ _ _)
  refine AW.sipush (n := 201) (by decide +kernel) (by decide +kernel) (?_ : AW _ _ _ _ 8 _ _ _ _ _ _)
  refine AW.imul (by decide +kernel) (?_ : AW _ _ _ _ 9 _ _ _ _ _ _)
  refine AW.iload_n (i := 2) (a := a2) (by decide +kernel) rfl (?_ : AW _ _ _ _ 10 _ _ _ _ _ _)
  refine AW.iadd (by decide +kernel) (?_ : AW _ _ _ _ 11 _ _ _ _ _ _)
  refine AW.lald (r := 1) (by decide +kernel) rfl (fun x1 => (?_ : AW _ _ _ _ 12 _ _ _ _ _ _))
  exact AW.retl (by decide +kernel) rfl (by decide) (by decide)
theorem c_Trace_flow (l : Launch) (hl : l.stackTraces = false) (a1 : Int) (a2 : Int) (μ : ZMem) (r : ZRes) (h : F_Trace_flow a1 a2 μ = some r) : ZC l cf_Trace_flow S_Trace S_Trace [zR (some 0), zI a1, zI a2] μ r := ZC.of hl (by decide +kernel) rfl rfl zft_X7_ok (Nat.le_of_ble_eq_true rfl) h (w_Trace_flow a1 a2 μ)
/-! WeirLedger$Trace.worth(III)D -/
def cf_Trace_worth : ZCf := (yX7_worth, cX7_worth, 9, some .double, [], 2, 0, 0, zft_X7, none)
theorem cal_Trace_worth : zCallee cf_Trace_worth 3 := ⟨rfl, zc_yX7_worth, by decide, by decide, by decide +kernel⟩
def L_Trace_worth_16 (c1 : Int) (c4 : UInt64) (μ : ZMem) (K : UInt64 → Option ZRes) : Nat → UInt64 → Int → Option ZRes
  | 0, _, _ => none
  | n + 1, v6, v8 => if w32 v8 < 0 then (K v6) else (zddiv v6 c4 (fun d3 => zRd μ 1 1407 ((c1 * 201) + v8) (fun x4 => zdadd d3 (zl2d x4) (fun d5 => zLet (v8 + (-1)) (fun x6 => L_Trace_worth_16 c1 c4 μ K n d5 x6)))))
set_option maxRecDepth 100000 in
theorem l_Trace_worth_16 {c1 : Int} {c4 : UInt64} {μ : ZMem} {K : UInt64 → Option ZRes} (hK : ∀ (k6 : UInt64), AW cf_Trace_worth S_Trace.length S_Trace S_Trace 49 [(6, zD k6)] [] μ 0 0 (K k6)) : ∀ (n : Nat) (v6 : UInt64) (v8 : Int), AW cf_Trace_worth S_Trace.length S_Trace S_Trace 16 [(0, zR (some 0)), (1, zI c1), (4, zD c4), (6, zD v6), (8, zI v8)] [] μ 0 0 (L_Trace_worth_16 c1 c4 μ K n v6 v8) := by
  intro n
  induction n with
  | zero => intro v6 v8; exact AW.noth
  | succ n ih =>
    intro v6 v8
    rw [L_Trace_worth_16]
    refine AW.iload (i := 8) (a := v8) (by decide +kernel) rfl (?_ : AW _ _ _ _ 18 _ _ _ _ _ _)
    refine AW.if_lt (off := 31) (tgt := 49) (by decide +kernel) (by decide) (fun _ => ?_) (fun _ => ?_)
    · refine AW.sub (L' := [(6, zD v6)]) [3] rfl ?_
      exact hK v6
    · refine AW.dload (i := 6) (a := v6) (by decide +kernel) rfl (?_ : AW _ _ _ _ 23 _ _ _ _ _ _)
      refine AW.dload (i := 4) (a := c4) (by decide +kernel) rfl (?_ : AW _ _ _ _ 25 _ _ _ _ _ _)
      refine AW.ddiv_if (by decide +kernel) (fun d3 => (?_ : AW _ _ _ _ 26 _ _ _ _ _ _))
      refine AW.aload_n (i := 0) (a := 0) (by decide +kernel) rfl (?_ : AW _ _ _ _ 27 _ _ _ _ _ _)
      refine AW.getR (idx := 11) (ci := 7) (k := 0) (r := 0) (by decide +kernel) rfl rfl rfl (?_ : AW _ _ _ _ 30 _ _ _ _ _ _)
      refine AW.iload_n (i := 1) (a := c1) (by decide +kernel) rfl (?_ : AW _ _ _ _ 31 _ _ _ _ _ _)
      refine AW.sipush (n := 201) (by decide +kernel) (by decide +kernel) (?_ : AW _ _ _ _ 34 _ _ _ _ _ _)
      refine AW.imul (by decide +kernel) (?_ : AW _ _ _ _ 35 _ _ _ _ _ _)
      refine AW.iload (i := 8) (a := v8) (by decide +kernel) rfl (?_ : AW _ _ _ _ 37 _ _ _ _ _ _)
      refine AW.iadd (by decide +kernel) (?_ : AW _ _ _ _ 38 _ _ _ _ _ _)
      refine AW.lald (r := 1) (by decide +kernel) rfl (fun x4 => (?_ : AW _ _ _ _ 39 _ _ _ _ _ _))
      refine AW.l2d (by decide +kernel) (?_ : AW _ _ _ _ 40 _ _ _ _ _ _)
      refine AW.dadd_if (by decide +kernel) (fun d5 => (?_ : AW _ _ _ _ 41 _ _ _ _ _ _))
      refine AW.dstore' (i := 6) (L' := [(6, zD d5), (0, zR (some 0)), (1, zI c1), (4, zD c4), (8, zI v8)]) (by decide +kernel) (by decide) rfl (?_ : AW _ _ _ _ 43 _ _ _ _ _ _)
      refine AW.iincL (i := 8) (n := -1) (a := v8) (L' := fun x6 => [(8, zI x6), (6, zD d5), (0, zR (some 0)), (1, zI c1), (4, zD c4)]) (by decide +kernel) rfl (by decide) (fun _ => rfl) (fun x6 => (?_ : AW _ _ _ _ 46 _ _ _ _ _ _))
      refine AW.goto (off := -30) (tgt := 16) (by decide +kernel) (by decide) ?_
      refine AW.sub (L' := [(0, zR (some 0)), (1, zI c1), (4, zD c4), (6, zD d5), (8, zI x6)]) [2, 3, 4, 1, 0] rfl ?_
      exact ih d5 x6
def F_Trace_worth (a1 : Int) (a2 : Int) (a3 : Int) (μ : ZMem) : Option ZRes := zddiv (zi2d a3) (4666723172467343360 : UInt64) (fun d1 => zdadd FP.dconst1 d1 (fun d2 => L_Trace_worth_16 a1 d2 μ (fun k7 => some (.inr (some (zD k7)), μ)) zN FP.dconst0 a2))
set_option maxRecDepth 100000 in
theorem w_Trace_worth (a1 : Int) (a2 : Int) (a3 : Int) (μ : ZMem) : AW cf_Trace_worth S_Trace.length S_Trace S_Trace 0 [(0, zR (some 0)), (1, zI a1), (2, zI a2), (3, zI a3)] [] μ 0 0 (F_Trace_worth a1 a2 a3 μ) := by
  unfold F_Trace_worth
  refine AW.dconst1 (by decide +kernel) (?_ : AW _ _ _ _ 1 _ _ _ _ _ _)
  refine AW.iload_n (i := 3) (a := a3) (by decide +kernel) rfl (?_ : AW _ _ _ _ 2 _ _ _ _ _ _)
  refine AW.i2d (by decide +kernel) (?_ : AW _ _ _ _ 3 _ _ _ _ _ _)
  refine AW.ldc2d (idx := 24) (v := 4666723172467343360) (by decide +kernel) zk_X7_24 (?_ : AW _ _ _ _ 6 _ _ _ _ _ _)
  refine AW.ddiv_if (by decide +kernel) (fun d1 => (?_ : AW _ _ _ _ 7 _ _ _ _ _ _))
  refine AW.dadd_if (by decide +kernel) (fun d2 => (?_ : AW _ _ _ _ 8 _ _ _ _ _ _))
  refine AW.dstore' (i := 4) (L' := [(4, zD d2), (0, zR (some 0)), (1, zI a1), (2, zI a2), (3, zI a3)]) (by decide +kernel) (by decide) rfl (?_ : AW _ _ _ _ 10 _ _ _ _ _ _)
  refine AW.dconst0 (by decide +kernel) (?_ : AW _ _ _ _ 11 _ _ _ _ _ _)
  refine AW.dstore' (i := 6) (L' := [(6, zD FP.dconst0), (4, zD d2), (0, zR (some 0)), (1, zI a1), (2, zI a2), (3, zI a3)]) (by decide +kernel) (by decide) rfl (?_ : AW _ _ _ _ 13 _ _ _ _ _ _)
  refine AW.iload_n (i := 2) (a := a2) (by decide +kernel) rfl (?_ : AW _ _ _ _ 14 _ _ _ _ _ _)
  refine AW.istore' (i := 8) (L' := [(8, zI a2), (6, zD FP.dconst0), (4, zD d2), (0, zR (some 0)), (1, zI a1), (2, zI a2), (3, zI a3)]) (by decide +kernel) (by decide) rfl (?_ : AW _ _ _ _ 16 _ _ _ _ _ _)
  refine AW.sub (L' := [(0, zR (some 0)), (1, zI a1), (4, zD d2), (6, zD FP.dconst0), (8, zI a2)]) [3, 4, 2, 1, 0] rfl ?_
  refine l_Trace_worth_16 (fun k7 => ?_) zN _ _
  refine AW.dload (i := 6) (a := k7) (by decide +kernel) rfl (?_ : AW _ _ _ _ 51 _ _ _ _ _ _)
  exact AW.retd (by decide +kernel) rfl (by decide) (by decide)
theorem c_Trace_worth (l : Launch) (hl : l.stackTraces = false) (a1 : Int) (a2 : Int) (a3 : Int) (μ : ZMem) (r : ZRes) (h : F_Trace_worth a1 a2 a3 μ = some r) : ZC l cf_Trace_worth S_Trace S_Trace [zR (some 0), zI a1, zI a2, zI a3] μ r := ZC.of hl (by decide +kernel) rfl rfl zft_X7_ok (Nat.le_of_ble_eq_true rfl) h (w_Trace_worth a1 a2 a3 μ)
