def zN : Nat := 1000000
def S_Books : List ZSh := [.inl (0, [(2, some 1), (2, some 2), (2, some 3), (2, some 4), (2, some 5), (0, none), (0, none), (3, none)]), .inr (0, 7, []), .inr (1, 32, []), .inr (0, 24, []), .inr (1, 4, []), .inr (1, 6, []), .inl (1, [(2, some 7), (2, some 8), (2, some 9), (0, none), (0, none), (3, none)]), .inr (0, 7, []), .inr (0, 6, []), .inr (0, 6, [])]
theorem S_Books_wf : zWfS S_Books.length S_Books = true ∧ Nat.ble S_Books.length 1000 = true := ⟨by decide +kernel, rfl⟩
def S_A : List ZSh := [.inr (1, 32, [])]
theorem S_A_wf : zWfS S_A.length S_A = true ∧ Nat.ble S_A.length 1000 = true := ⟨by decide +kernel, rfl⟩
/-! java/util/Arrays.fill([JJ)V -/
def cf_Arrays_fill : ZCf := (yJ7_fill_d0a16, cJ7_fill_d0a16, 5, none, [], 2, 0, 0, [], none)
theorem cal_Arrays_fill : zCallee cf_Arrays_fill 2 := ⟨rfl, zc_yJ7_fill_d0a16, by decide, by decide, by decide +kernel⟩
def L_Arrays_fill_6 (c1 : Int) (K : ZMem → Option ZRes) : Nat → Int → ZMem → Option ZRes
  | 0, _, _ => none
  | n + 1, v3, μ => if w32 32 ≤ w32 v3 then (K  μ) else (zWr μ 0 32 v3 c1 (fun μ1 => zLet (v3 + 1) (fun x2 => L_Arrays_fill_6 c1 K n x2 μ1)))
set_option maxRecDepth 100000 in
theorem l_Arrays_fill_6 {c1 : Int} {K : ZMem → Option ZRes} (hK : ∀ (μ : ZMem), AW cf_Arrays_fill S_A.length S_A S_A 22 [] [] μ 0 0 (K μ)) : ∀ (n : Nat) (v3 : Int) (μ : ZMem), AW cf_Arrays_fill S_A.length S_A S_A 6 [(0, zR (some 0)), (1, zJ c1), (3, zI v3), (4, zI 32)] [] μ 0 0 (L_Arrays_fill_6 c1 K n v3 μ) := by
  intro n
  induction n with
  | zero => intro v3 μ; exact AW.noth
  | succ n ih =>
    intro v3 μ
    rw [L_Arrays_fill_6]
    refine AW.iload_n (i := 3) (a := v3) (by decide +kernel) rfl (?_ : AW _ _ _ _ 7 _ _ _ _ _ _)
    refine AW.iload (i := 4) (a := 32) (by decide +kernel) rfl (?_ : AW _ _ _ _ 9 _ _ _ _ _ _)
    refine AW.icmp_ge (off := 13) (tgt := 22) (by decide +kernel) (by decide) (fun _ => ?_) (fun _ => ?_)
    · refine AW.sub (L' := []) [] rfl ?_
      exact hK  μ
    · refine AW.aload_n (i := 0) (a := 0) (by decide +kernel) rfl (?_ : AW _ _ _ _ 13 _ _ _ _ _ _)
      refine AW.iload_n (i := 3) (a := v3) (by decide +kernel) rfl (?_ : AW _ _ _ _ 14 _ _ _ _ _ _)
      refine AW.lload_n (i := 1) (a := c1) (by decide +kernel) rfl (?_ : AW _ _ _ _ 15 _ _ _ _ _ _)
      refine AW.lastL (r := 0) (by decide +kernel) rfl (fun μ1 => (?_ : AW _ _ _ _ 16 _ _ _ _ _ _))
      refine AW.iincL (i := 3) (n := 1) (a := v3) (L' := fun x2 => [(3, zI x2), (0, zR (some 0)), (1, zJ c1), (4, zI 32)]) (by decide +kernel) rfl (by decide) (fun _ => rfl) (fun x2 => (?_ : AW _ _ _ _ 19 _ _ _ _ _ _))
      refine AW.goto (off := -13) (tgt := 6) (by decide +kernel) (by decide) ?_
      refine AW.sub (L' := [(0, zR (some 0)), (1, zJ c1), (3, zI x2), (4, zI 32)]) [1, 2, 0, 3] rfl ?_
      exact ih x2 μ1
def F_Arrays_fill (a1 : Int) (μ : ZMem) : Option ZRes := L_Arrays_fill_6 a1 (fun μ3 => some (.inr none, μ3)) zN 0 μ
set_option maxRecDepth 100000 in
theorem w_Arrays_fill (a1 : Int) (μ : ZMem) : AW cf_Arrays_fill S_A.length S_A S_A 0 [(0, zR (some 0)), (1, zJ a1)] [] μ 0 0 (F_Arrays_fill a1 μ) := by
  unfold F_Arrays_fill
  refine AW.iconst (n := 0) (by decide +kernel) (?_ : AW _ _ _ _ 1 _ _ _ _ _ _)
  refine AW.istore_n' (i := 3) (L' := [(3, zI 0), (0, zR (some 0)), (1, zJ a1)]) (by decide +kernel) (by decide) rfl (?_ : AW _ _ _ _ 2 _ _ _ _ _ _)
  refine AW.aload_n (i := 0) (a := 0) (by decide +kernel) rfl (?_ : AW _ _ _ _ 3 _ _ _ _ _ _)
  refine AW.alen (r := 0) (by decide +kernel) rfl (by decide) (?_ : AW _ _ _ _ 4 _ _ _ _ _ _)
  refine AW.istore' (i := 4) (L' := [(4, zI 32), (3, zI 0), (0, zR (some 0)), (1, zJ a1)]) (by decide +kernel) (by decide) rfl (?_ : AW _ _ _ _ 6 _ _ _ _ _ _)
  refine AW.sub (L' := [(0, zR (some 0)), (1, zJ a1), (3, zI 0), (4, zI 32)]) [2, 3, 1, 0] rfl ?_
  refine l_Arrays_fill_6 (fun μ3 => ?_) zN _ _
  exact AW.retv (by decide +kernel) rfl (by decide) (by decide)
theorem c_Arrays_fill (l : Launch) (hl : l.stackTraces = false) (a1 : Int) (μ : ZMem) (r : ZRes) (h : F_Arrays_fill a1 μ = some r) : ZC l cf_Arrays_fill S_A S_A [zR (some 0), zJ a1] μ r := ZC.of hl (by decide +kernel) rfl rfl (fun _ h => absurd h List.not_mem_nil) (Nat.le_of_ble_eq_true rfl) h (w_Arrays_fill a1 μ)
theorem sb_0 : zSub S_Books [2] S_A := ⟨rfl, by decide +kernel, by decide +kernel, rfl⟩
def S_A2 : List ZSh := [.inr (0, 24, [])]
theorem S_A2_wf : zWfS S_A2.length S_A2 = true ∧ Nat.ble S_A2.length 1000 = true := ⟨by decide +kernel, rfl⟩
/-! java/util/Arrays.fill([II)V -/
def cf_Arrays_fill_w2 : ZCf := (yJ7_fill_53178, cJ7_fill_53178, 4, none, [], 2, 0, 0, [], none)
theorem cal_Arrays_fill_w2 : zCallee cf_Arrays_fill_w2 2 := ⟨rfl, zc_yJ7_fill_53178, by decide, by decide, by decide +kernel⟩
def L_Arrays_fill_w2_5 (c1 : Int) (K : ZMem → Option ZRes) : Nat → Int → ZMem → Option ZRes
  | 0, _, _ => none
  | n + 1, v2, μ => if w32 24 ≤ w32 v2 then (K  μ) else (zWr μ 0 24 v2 c1 (fun μ1 => zLet (v2 + 1) (fun x2 => L_Arrays_fill_w2_5 c1 K n x2 μ1)))
set_option maxRecDepth 100000 in
theorem l_Arrays_fill_w2_5 {c1 : Int} {K : ZMem → Option ZRes} (hK : ∀ (μ : ZMem), AW cf_Arrays_fill_w2 S_A2.length S_A2 S_A2 20 [] [] μ 0 0 (K μ)) : ∀ (n : Nat) (v2 : Int) (μ : ZMem), AW cf_Arrays_fill_w2 S_A2.length S_A2 S_A2 5 [(0, zR (some 0)), (1, zI c1), (2, zI v2), (3, zI 24)] [] μ 0 0 (L_Arrays_fill_w2_5 c1 K n v2 μ) := by
  intro n
  induction n with
  | zero => intro v2 μ; exact AW.noth
  | succ n ih =>
    intro v2 μ
    rw [L_Arrays_fill_w2_5]
    refine AW.iload_n (i := 2) (a := v2) (by decide +kernel) rfl (?_ : AW _ _ _ _ 6 _ _ _ _ _ _)
    refine AW.iload_n (i := 3) (a := 24) (by decide +kernel) rfl (?_ : AW _ _ _ _ 7 _ _ _ _ _ _)
    refine AW.icmp_ge (off := 13) (tgt := 20) (by decide +kernel) (by decide) (fun _ => ?_) (fun _ => ?_)
    · refine AW.sub (L' := []) [] rfl ?_
      exact hK  μ
    · refine AW.aload_n (i := 0) (a := 0) (by decide +kernel) rfl (?_ : AW _ _ _ _ 11 _ _ _ _ _ _)
      refine AW.iload_n (i := 2) (a := v2) (by decide +kernel) rfl (?_ : AW _ _ _ _ 12 _ _ _ _ _ _)
      refine AW.iload_n (i := 1) (a := c1) (by decide +kernel) rfl (?_ : AW _ _ _ _ 13 _ _ _ _ _ _)
      refine AW.iastL (r := 0) (by decide +kernel) rfl (fun μ1 => (?_ : AW _ _ _ _ 14 _ _ _ _ _ _))
      refine AW.iincL (i := 2) (n := 1) (a := v2) (L' := fun x2 => [(2, zI x2), (0, zR (some 0)), (1, zI c1), (3, zI 24)]) (by decide +kernel) rfl (by decide) (fun _ => rfl) (fun x2 => (?_ : AW _ _ _ _ 17 _ _ _ _ _ _))
      refine AW.goto (off := -12) (tgt := 5) (by decide +kernel) (by decide) ?_
      refine AW.sub (L' := [(0, zR (some 0)), (1, zI c1), (2, zI x2), (3, zI 24)]) [1, 2, 0, 3] rfl ?_
      exact ih x2 μ1
def F_Arrays_fill_w2 (a1 : Int) (μ : ZMem) : Option ZRes := L_Arrays_fill_w2_5 a1 (fun μ3 => some (.inr none, μ3)) zN 0 μ
set_option maxRecDepth 100000 in
theorem w_Arrays_fill_w2 (a1 : Int) (μ : ZMem) : AW cf_Arrays_fill_w2 S_A2.length S_A2 S_A2 0 [(0, zR (some 0)), (1, zI a1)] [] μ 0 0 (F_Arrays_fill_w2 a1 μ) := by
  unfold F_Arrays_fill_w2
  refine AW.iconst (n := 0) (by decide +kernel) (?_ : AW _ _ _ _ 1 _ _ _ _ _ _)
  refine AW.istore_n' (i := 2) (L' := [(2, zI 0), (0, zR (some 0)), (1, zI a1)]) (by decide +kernel) (by decide) rfl (?_ : AW _ _ _ _ 2 _ _ _ _ _ _)
  refine AW.aload_n (i := 0) (a := 0) (by decide +kernel) rfl (?_ : AW _ _ _ _ 3 _ _ _ _ _ _)
  refine AW.alen (r := 0) (by decide +kernel) rfl (by decide) (?_ : AW _ _ _ _ 4 _ _ _ _ _ _)
  refine AW.istore_n' (i := 3) (L' := [(3, zI 24), (2, zI 0), (0, zR (some 0)), (1, zI a1)]) (by decide +kernel) (by decide) rfl (?_ : AW _ _ _ _ 5 _ _ _ _ _ _)
  refine AW.sub (L' := [(0, zR (some 0)), (1, zI a1), (2, zI 0), (3, zI 24)]) [2, 3, 1, 0] rfl ?_
  refine l_Arrays_fill_w2_5 (fun μ3 => ?_) zN _ _
  exact AW.retv (by decide +kernel) rfl (by decide) (by decide)
theorem c_Arrays_fill_w2 (l : Launch) (hl : l.stackTraces = false) (a1 : Int) (μ : ZMem) (r : ZRes) (h : F_Arrays_fill_w2 a1 μ = some r) : ZC l cf_Arrays_fill_w2 S_A2 S_A2 [zR (some 0), zI a1] μ r := ZC.of hl (by decide +kernel) rfl rfl (fun _ h => absurd h List.not_mem_nil) (Nat.le_of_ble_eq_true rfl) h (w_Arrays_fill_w2 a1 μ)
theorem sb_1 : zSub S_Books [3] S_A2 := ⟨rfl, by decide +kernel, by decide +kernel, rfl⟩
def S_A3 : List ZSh := [.inr (1, 4, [])]
theorem S_A3_wf : zWfS S_A3.length S_A3 = true ∧ Nat.ble S_A3.length 1000 = true := ⟨by decide +kernel, rfl⟩
/-! java/util/Arrays.fill([JJ)V -/
def cf_Arrays_fill_w3 : ZCf := (yJ7_fill_d0a16, cJ7_fill_d0a16, 5, none, [], 2, 0, 0, [], none)
theorem cal_Arrays_fill_w3 : zCallee cf_Arrays_fill_w3 2 := ⟨rfl, zc_yJ7_fill_d0a16, by decide, by decide, by decide +kernel⟩
def L_Arrays_fill_w3_6 (c1 : Int) (K : ZMem → Option ZRes) : Nat → Int → ZMem → Option ZRes
  | 0, _, _ => none
  | n + 1, v3, μ => if w32 4 ≤ w32 v3 then (K  μ) else (zWr μ 0 4 v3 c1 (fun μ1 => zLet (v3 + 1) (fun x2 => L_Arrays_fill_w3_6 c1 K n x2 μ1)))
set_option maxRecDepth 100000 in
theorem l_Arrays_fill_w3_6 {c1 : Int} {K : ZMem → Option ZRes} (hK : ∀ (μ : ZMem), AW cf_Arrays_fill_w3 S_A3.length S_A3 S_A3 22 [] [] μ 0 0 (K μ)) : ∀ (n : Nat) (v3 : Int) (μ : ZMem), AW cf_Arrays_fill_w3 S_A3.length S_A3 S_A3 6 [(0, zR (some 0)), (1, zJ c1), (3, zI v3), (4, zI 4)] [] μ 0 0 (L_Arrays_fill_w3_6 c1 K n v3 μ) := by
  intro n
  induction n with
  | zero => intro v3 μ; exact AW.noth
  | succ n ih =>
    intro v3 μ
    rw [L_Arrays_fill_w3_6]
    refine AW.iload_n (i := 3) (a := v3) (by decide +kernel) rfl (?_ : AW _ _ _ _ 7 _ _ _ _ _ _)
    refine AW.iload (i := 4) (a := 4) (by decide +kernel) rfl (?_ : AW _ _ _ _ 9 _ _ _ _ _ _)
    refine AW.icmp_ge (off := 13) (tgt := 22) (by decide +kernel) (by decide) (fun _ => ?_) (fun _ => ?_)
    · refine AW.sub (L' := []) [] rfl ?_
      exact hK  μ
    · refine AW.aload_n (i := 0) (a := 0) (by decide +kernel) rfl (?_ : AW _ _ _ _ 13 _ _ _ _ _ _)
      refine AW.iload_n (i := 3) (a := v3) (by decide +kernel) rfl (?_ : AW _ _ _ _ 14 _ _ _ _ _ _)
      refine AW.lload_n (i := 1) (a := c1) (by decide +kernel) rfl (?_ : AW _ _ _ _ 15 _ _ _ _ _ _)
      refine AW.lastL (r := 0) (by decide +kernel) rfl (fun μ1 => (?_ : AW _ _ _ _ 16 _ _ _ _ _ _))
      refine AW.iincL (i := 3) (n := 1) (a := v3) (L' := fun x2 => [(3, zI x2), (0, zR (some 0)), (1, zJ c1), (4, zI 4)]) (by decide +kernel) rfl (by decide) (fun _ => rfl) (fun x2 => (?_ : AW _ _ _ _ 19 _ _ _ _ _ _))
      refine AW.goto (off := -13) (tgt := 6) (by decide +kernel) (by decide) ?_
      refine AW.sub (L' := [(0, zR (some 0)), (1, zJ c1), (3, zI x2), (4, zI 4)]) [1, 2, 0, 3] rfl ?_
      exact ih x2 μ1
def F_Arrays_fill_w3 (a1 : Int) (μ : ZMem) : Option ZRes := L_Arrays_fill_w3_6 a1 (fun μ3 => some (.inr none, μ3)) zN 0 μ
set_option maxRecDepth 100000 in
theorem w_Arrays_fill_w3 (a1 : Int) (μ : ZMem) : AW cf_Arrays_fill_w3 S_A3.length S_A3 S_A3 0 [(0, zR (some 0)), (1, zJ a1)] [] μ 0 0 (F_Arrays_fill_w3 a1 μ) := by
  unfold F_Arrays_fill_w3
  refine AW.iconst (n := 0) (by decide +kernel) (?_ : AW _ _ _ _ 1 _ _ _ _ _ _)
  refine AW.istore_n' (i := 3) (L' := [(3, zI 0), (0, zR (some 0)), (1, zJ a1)]) (by decide +kernel) (by decide) rfl (?_ : AW _ _ _ _ 2 _ _ _ _ _ _)
  refine AW.aload_n (i := 0) (a := 0) (by decide +kernel) rfl (?_ : AW _ _ _ _ 3 _ _ _ _ _ _)
  refine AW.alen (r := 0) (by decide +kernel) rfl (by decide) (?_ : AW _ _ _ _ 4 _ _ _ _ _ _)
  refine AW.istore' (i := 4) (L' := [(4, zI 4), (3, zI 0), (0, zR (some 0)), (1, zJ a1)]) (by decide +kernel) (by decide) rfl (?_ : AW _ _ _ _ 6 _ _ _ _ _ _)
  refine AW.sub (L' := [(0, zR (some 0)), (1, zJ a1), (3, zI 0), (4, zI 4)]) [2, 3, 1, 0] rfl ?_
  refine l_Arrays_fill_w3_6 (fun μ3 => ?_) zN _ _
  exact AW.retv (by decide +kernel) rfl (by decide) (by decide)
theorem c_Arrays_fill_w3 (l : Launch) (hl : l.stackTraces = false) (a1 : Int) (μ : ZMem) (r : ZRes) (h : F_Arrays_fill_w3 a1 μ = some r) : ZC l cf_Arrays_fill_w3 S_A3 S_A3 [zR (some 0), zJ a1] μ r := ZC.of hl (by decide +kernel) rfl rfl (fun _ h => absurd h List.not_mem_nil) (Nat.le_of_ble_eq_true rfl) h (w_Arrays_fill_w3 a1 μ)
theorem sb_2 : zSub S_Books [4] S_A3 := ⟨rfl, by decide +kernel, by decide +kernel, rfl⟩
/-! WeirLedger$Books.open(LWeirLedger$Fund;)V -/
def cf_Books_open : ZCf := (yX0_open, cX0_open, 2, none, [], 3, 0, 0, zft_X0, none)
theorem cal_Books_open : zCallee cf_Books_open 1 := ⟨rfl, zc_yX0_open, by decide, by decide, by decide +kernel⟩
def F_Books_open (μ : ZMem) : Option ZRes := zLet (zCopy μ 7 1 7) (fun μ1 => zCm [2] μ1 (F_Arrays_fill 0 (zVw [2] μ1)) (zkV (fun μ2 => zCm [3] μ2 (F_Arrays_fill_w2 0 (zVw [3] μ2)) (zkV (fun μ4 => zCm [4] μ4 (F_Arrays_fill_w3 0 (zVw [4] μ4)) (zkV (fun μ6 => zLet (zUp μ6 0 5 (μ6 6 4)) (fun μ8 => zLet (zUp μ8 0 6 0) (fun μ9 => zLet (zUp μ9 0 7 0) (fun μ10 => some (.inr none, μ10)))))) zX0)) zX0)) zX0)
set_option maxRecDepth 100000 in
theorem w_Books_open (μ : ZMem) : AW cf_Books_open S_Books.length S_Books S_Books 0 [(0, zR (some 0)), (1, zR (some 6))] [] μ 0 0 (F_Books_open μ) := by
  unfold F_Books_open
  refine AW.aload_n (i := 1) (a := 6) (by decide +kernel) rfl (?_ : AW _ _ _ _ 1 _ _ _ _ _ _)
  refine AW.getR (idx := 28) (ci := 1) (k := 0) (r := 6) (by decide +kernel) rfl rfl rfl (?_ : AW _ _ _ _ 4 _ _ _ _ _ _)
  refine AW.iconst (n := 0) (by decide +kernel) (?_ : AW _ _ _ _ 5 _ _ _ _ _ _)
  refine AW.aload_n (i := 0) (a := 0) (by decide +kernel) rfl (?_ : AW _ _ _ _ 6 _ _ _ _ _ _)
  refine AW.getR (idx := 9) (ci := 0) (k := 0) (r := 0) (by decide +kernel) rfl rfl rfl (?_ : AW _ _ _ _ 9 _ _ _ _ _ _)
  refine AW.iconst (n := 0) (by decide +kernel) (?_ : AW _ _ _ _ 10 _ _ _ _ _ _)
  refine AW.bipush (n := 7) (by decide +kernel) (by decide +kernel) (?_ : AW _ _ _ _ 12 _ _ _ _ _ _)
  refine AW.copyI (idx := 31) (r0 := 7) (r1 := 1) (n := 7) (by decide +kernel) zm_X0_31 rfl rfl (by decide) (by decide) rfl (fun μ1 => (?_ : AW _ _ _ _ 15 _ _ _ _ _ _))
  refine AW.aload_n (i := 0) (a := 0) (by decide +kernel) rfl (?_ : AW _ _ _ _ 16 _ _ _ _ _ _)
  refine AW.getR (idx := 15) (ci := 0) (k := 1) (r := 0) (by decide +kernel) rfl rfl rfl (?_ : AW _ _ _ _ 19 _ _ _ _ _ _)
  refine AW.lconst0 (by decide +kernel) (?_ : AW _ _ _ _ 20 _ _ _ _ _ _)
  refine AW.callSm (g := cf_Arrays_fill) (Sg := S_A) (pl := [2]) (av := [zR (some 0), zJ 0]) (idx := 37) (n := 2) (st := []) (by decide +kernel) (fun l hl r hr => c_Arrays_fill l hl 0 _ r hr) sb_0 rfl cal_Arrays_fill rfl (zw3 zm_X0_37 zt_yJ7_fill_d0a16 zn_J7) ⟨by decide, by decide, by decide, by decide⟩ (Nat.le_of_ble_eq_true rfl) (Or.inl rfl) (fun v μ2 => AW.rV (?_ : AW _ _ _ _ 23 _ _ _ _ _ _) v)
  refine AW.aload_n (i := 0) (a := 0) (by decide +kernel) rfl (?_ : AW _ _ _ _ 24 _ _ _ _ _ _)
  refine AW.getR (idx := 19) (ci := 0) (k := 2) (r := 0) (by decide +kernel) rfl rfl rfl (?_ : AW _ _ _ _ 27 _ _ _ _ _ _)
  refine AW.iconst (n := 0) (by decide +kernel) (?_ : AW _ _ _ _ 28 _ _ _ _ _ _)
  refine AW.callSm (g := cf_Arrays_fill_w2) (Sg := S_A2) (pl := [3]) (av := [zR (some 0), zI 0]) (idx := 43) (n := 2) (st := []) (by decide +kernel) (fun l hl r hr => c_Arrays_fill_w2 l hl 0 _ r hr) sb_1 rfl cal_Arrays_fill_w2 rfl (zw3 zm_X0_43 zt_yJ7_fill_53178 zn_J7) ⟨by decide, by decide, by decide, by decide⟩ (Nat.le_of_ble_eq_true rfl) (Or.inl rfl) (fun v μ4 => AW.rV (?_ : AW _ _ _ _ 31 _ _ _ _ _ _) v)
  refine AW.aload_n (i := 0) (a := 0) (by decide +kernel) rfl (?_ : AW _ _ _ _ 32 _ _ _ _ _ _)
  refine AW.getR (idx := 22) (ci := 0) (k := 3) (r := 0) (by decide +kernel) rfl rfl rfl (?_ : AW _ _ _ _ 35 _ _ _ _ _ _)
  refine AW.lconst0 (by decide +kernel) (?_ : AW _ _ _ _ 36 _ _ _ _ _ _)
  refine AW.callSm (g := cf_Arrays_fill_w3) (Sg := S_A3) (pl := [4]) (av := [zR (some 0), zJ 0]) (idx := 37) (n := 2) (st := []) (by decide +kernel) (fun l hl r hr => c_Arrays_fill_w3 l hl 0 _ r hr) sb_2 rfl cal_Arrays_fill_w3 rfl (zw3 zm_X0_37 zt_yJ7_fill_d0a16 zn_J7) ⟨by decide, by decide, by decide, by decide⟩ (Nat.le_of_ble_eq_true rfl) (Or.inl rfl) (fun v μ6 => AW.rV (?_ : AW _ _ _ _ 39 _ _ _ _ _ _) v)
  refine AW.aload_n (i := 0) (a := 0) (by decide +kernel) rfl (?_ : AW _ _ _ _ 40 _ _ _ _ _ _)
  refine AW.aload_n (i := 1) (a := 6) (by decide +kernel) rfl (?_ : AW _ _ _ _ 41 _ _ _ _ _ _)
  refine AW.getI (idx := 46) (ci := 1) (k := 4) (r := 6) (by decide +kernel) rfl rfl rfl (?_ : AW _ _ _ _ 44 _ _ _ _ _ _)
  refine AW.putiL (idx := 50) (ci := 0) (k := 5) (r := 0) (by decide +kernel) rfl rfl rfl (fun μ8 => (?_ : AW _ _ _ _ 47 _ _ _ _ _ _))
  refine AW.aload_n (i := 0) (a := 0) (by decide +kernel) rfl (?_ : AW _ _ _ _ 48 _ _ _ _ _ _)
  refine AW.iconst (n := 0) (by decide +kernel) (?_ : AW _ _ _ _ 49 _ _ _ _ _ _)
  refine AW.putiL (idx := 51) (ci := 0) (k := 6) (r := 0) (by decide +kernel) rfl rfl rfl (fun μ9 => (?_ : AW _ _ _ _ 52 _ _ _ _ _ _))
  refine AW.aload_n (i := 0) (a := 0) (by decide +kernel) rfl (?_ : AW _ _ _ _ 53 _ _ _ _ _ _)
  refine AW.iconst (n := 0) (by decide +kernel) (?_ : AW _ _ _ _ 54 _ _ _ _ _ _)
  refine AW.putb1L (idx := 54) (ci := 0) (k := 7) (r := 0) (by decide +kernel) rfl rfl rfl (by decide) (fun μ10 => (?_ : AW _ _ _ _ 57 _ _ _ _ _ _))
  exact AW.retv (by decide +kernel) rfl (by decide) (by decide)
theorem c_Books_open (l : Launch) (hl : l.stackTraces = false) (μ : ZMem) (r : ZRes) (h : F_Books_open μ = some r) : ZC l cf_Books_open S_Books S_Books [zR (some 0), zR (some 6)] μ r := ZC.of hl (by decide +kernel) rfl rfl zft_X0_ok (Nat.le_of_ble_eq_true rfl) h (w_Books_open μ)
def S_Books2 : List ZSh := [.inl (0, [(2, some 1), (2, some 2), (2, some 3), (2, some 4), (2, some 5), (0, none), (0, none), (3, none)]), .inr (0, 7, []), .inr (1, 32, []), .inr (0, 24, []), .inr (1, 4, []), .inr (1, 6, []), .inl (0, [(2, some 7), (2, some 8), (2, some 9), (2, some 10), (2, some 11), (0, none), (0, none), (3, none)]), .inr (0, 7, []), .inr (1, 32, []), .inr (0, 24, []), .inr (1, 4, []), .inr (1, 6, [])]
theorem S_Books2_wf : zWfS S_Books2.length S_Books2 = true ∧ Nat.ble S_Books2.length 1000 = true := ⟨by decide +kernel, rfl⟩
/-! WeirLedger$Books.copyFrom(LWeirLedger$Books;)V -/
def cf_Books_copyFrom : ZCf := (yX0_copyFrom, cX0_copyFrom, 2, none, [], 2, 0, 0, zft_X0, none)
theorem cal_Books_copyFrom : zCallee cf_Books_copyFrom 1 := ⟨rfl, zc_yX0_copyFrom, by decide, by decide, by decide +kernel⟩
def F_Books_copyFrom (μ : ZMem) : Option ZRes := zLet (zCopy μ 7 1 7) (fun μ1 => zLet (zCopy μ1 8 2 32) (fun μ2 => zLet (zCopy μ2 9 3 24) (fun μ3 => zLet (zCopy μ3 10 4 4) (fun μ4 => zLet (zUp μ4 0 5 (μ4 6 5)) (fun μ5 => zLet (zUp μ5 0 6 (μ5 6 6)) (fun μ6 => if (μ6 6 7) = 0 ∨ (μ6 6 7) = 1 then zLet (zUp μ6 0 7 (μ6 6 7)) (fun μ7 => some (.inr none, μ7)) else none))))))
set_option maxRecDepth 100000 in
theorem w_Books_copyFrom (μ : ZMem) : AW cf_Books_copyFrom S_Books2.length S_Books2 S_Books2 0 [(0, zR (some 0)), (1, zR (some 6))] [] μ 0 0 (F_Books_copyFrom μ) := by
  unfold F_Books_copyFrom
  refine AW.aload_n (i := 1) (a := 6) (by decide +kernel) rfl (?_ : AW _ _ _ _ 1 _ _ _ _ _ _)
  refine AW.getR (idx := 9) (ci := 0) (k := 0) (r := 6) (by decide +kernel) rfl rfl rfl (?_ : AW _ _ _ _ 4 _ _ _ _ _ _)
  refine AW.iconst (n := 0) (by decide +kernel) (?_ : AW _ _ _ _ 5 _ _ _ _ _ _)
  refine AW.aload_n (i := 0) (a := 0) (by decide +kernel) rfl (?_ : AW _ _ _ _ 6 _ _ _ _ _ _)
  refine AW.getR (idx := 9) (ci := 0) (k := 0) (r := 0) (by decide +kernel) rfl rfl rfl (?_ : AW _ _ _ _ 9 _ _ _ _ _ _)
  refine AW.iconst (n := 0) (by decide +kernel) (?_ : AW _ _ _ _ 10 _ _ _ _ _ _)
  refine AW.bipush (n := 7) (by decide +kernel) (by decide +kernel) (?_ : AW _ _ _ _ 12 _ _ _ _ _ _)
  refine AW.copyI (idx := 31) (r0 := 7) (r1 := 1) (n := 7) (by decide +kernel) zm_X0_31 rfl rfl (by decide) (by decide) rfl (fun μ1 => (?_ : AW _ _ _ _ 15 _ _ _ _ _ _))
  refine AW.aload_n (i := 1) (a := 6) (by decide +kernel) rfl (?_ : AW _ _ _ _ 16 _ _ _ _ _ _)
  refine AW.getR (idx := 15) (ci := 0) (k := 1) (r := 6) (by decide +kernel) rfl rfl rfl (?_ : AW _ _ _ _ 19 _ _ _ _ _ _)
  refine AW.iconst (n := 0) (by decide +kernel) (?_ : AW _ _ _ _ 20 _ _ _ _ _ _)
  refine AW.aload_n (i := 0) (a := 0) (by decide +kernel) rfl (?_ : AW _ _ _ _ 21 _ _ _ _ _ _)
  refine AW.getR (idx := 15) (ci := 0) (k := 1) (r := 0) (by decide +kernel) rfl rfl rfl (?_ : AW _ _ _ _ 24 _ _ _ _ _ _)
  refine AW.iconst (n := 0) (by decide +kernel) (?_ : AW _ _ _ _ 25 _ _ _ _ _ _)
  refine AW.bipush (n := 32) (by decide +kernel) (by decide +kernel) (?_ : AW _ _ _ _ 27 _ _ _ _ _ _)
  refine AW.copyJ (idx := 31) (r0 := 8) (r1 := 2) (n := 32) (by decide +kernel) zm_X0_31 rfl rfl (by decide) (by decide) rfl (fun μ2 => (?_ : AW _ _ _ _ 30 _ _ _ _ _ _))
  refine AW.aload_n (i := 1) (a := 6) (by decide +kernel) rfl (?_ : AW _ _ _ _ 31 _ _ _ _ _ _)
  refine AW.getR (idx := 19) (ci := 0) (k := 2) (r := 6) (by decide +kernel) rfl rfl rfl (?_ : AW _ _ _ _ 34 _ _ _ _ _ _)
  refine AW.iconst (n := 0) (by decide +kernel) (?_ : AW _ _ _ _ 35 _ _ _ _ _ _)
  refine AW.aload_n (i := 0) (a := 0) (by decide +kernel) rfl (?_ : AW _ _ _ _ 36 _ _ _ _ _ _)
  refine AW.getR (idx := 19) (ci := 0) (k := 2) (r := 0) (by decide +kernel) rfl rfl rfl (?_ : AW _ _ _ _ 39 _ _ _ _ _ _)
  refine AW.iconst (n := 0) (by decide +kernel) (?_ : AW _ _ _ _ 40 _ _ _ _ _ _)
  refine AW.bipush (n := 24) (by decide +kernel) (by decide +kernel) (?_ : AW _ _ _ _ 42 _ _ _ _ _ _)
  refine AW.copyI (idx := 31) (r0 := 9) (r1 := 3) (n := 24) (by decide +kernel) zm_X0_31 rfl rfl (by decide) (by decide) rfl (fun μ3 => (?_ : AW _ _ _ _ 45 _ _ _ _ _ _))
  refine AW.aload_n (i := 1) (a := 6) (by decide +kernel) rfl (?_ : AW _ _ _ _ 46 _ _ _ _ _ _)
  refine AW.getR (idx := 22) (ci := 0) (k := 3) (r := 6) (by decide +kernel) rfl rfl rfl (?_ : AW _ _ _ _ 49 _ _ _ _ _ _)
  refine AW.iconst (n := 0) (by decide +kernel) (?_ : AW _ _ _ _ 50 _ _ _ _ _ _)
  refine AW.aload_n (i := 0) (a := 0) (by decide +kernel) rfl (?_ : AW _ _ _ _ 51 _ _ _ _ _ _)
  refine AW.getR (idx := 22) (ci := 0) (k := 3) (r := 0) (by decide +kernel) rfl rfl rfl (?_ : AW _ _ _ _ 54 _ _ _ _ _ _)
  refine AW.iconst (n := 0) (by decide +kernel) (?_ : AW _ _ _ _ 55 _ _ _ _ _ _)
  refine AW.iconst (n := 4) (by decide +kernel) (?_ : AW _ _ _ _ 56 _ _ _ _ _ _)
  refine AW.copyJ (idx := 31) (r0 := 10) (r1 := 4) (n := 4) (by decide +kernel) zm_X0_31 rfl rfl (by decide) (by decide) rfl (fun μ4 => (?_ : AW _ _ _ _ 59 _ _ _ _ _ _))
  refine AW.aload_n (i := 0) (a := 0) (by decide +kernel) rfl (?_ : AW _ _ _ _ 60 _ _ _ _ _ _)
  refine AW.aload_n (i := 1) (a := 6) (by decide +kernel) rfl (?_ : AW _ _ _ _ 61 _ _ _ _ _ _)
  refine AW.getI (idx := 50) (ci := 0) (k := 5) (r := 6) (by decide +kernel) rfl rfl rfl (?_ : AW _ _ _ _ 64 _ _ _ _ _ _)
  refine AW.putiL (idx := 50) (ci := 0) (k := 5) (r := 0) (by decide +kernel) rfl rfl rfl (fun μ5 => (?_ : AW _ _ _ _ 67 _ _ _ _ _ _))
  refine AW.aload_n (i := 0) (a := 0) (by decide +kernel) rfl (?_ : AW _ _ _ _ 68 _ _ _ _ _ _)
  refine AW.aload_n (i := 1) (a := 6) (by decide +kernel) rfl (?_ : AW _ _ _ _ 69 _ _ _ _ _ _)
  refine AW.getI (idx := 51) (ci := 0) (k := 6) (r := 6) (by decide +kernel) rfl rfl rfl (?_ : AW _ _ _ _ 72 _ _ _ _ _ _)
  refine AW.putiL (idx := 51) (ci := 0) (k := 6) (r := 0) (by decide +kernel) rfl rfl rfl (fun μ6 => (?_ : AW _ _ _ _ 75 _ _ _ _ _ _))
  refine AW.aload_n (i := 0) (a := 0) (by decide +kernel) rfl (?_ : AW _ _ _ _ 76 _ _ _ _ _ _)
  refine AW.aload_n (i := 1) (a := 6) (by decide +kernel) rfl (?_ : AW _ _ _ _ 77 _ _ _ _ _ _)
  refine AW.getZ (idx := 54) (ci := 0) (k := 7) (r := 6) (by decide +kernel) rfl rfl rfl (?_ : AW _ _ _ _ 80 _ _ _ _ _ _)
  refine AW.putbL (idx := 54) (ci := 0) (k := 7) (r := 0) (by decide +kernel) rfl rfl rfl (fun μ7 => (?_ : AW _ _ _ _ 83 _ _ _ _ _ _))
  exact AW.retv (by decide +kernel) rfl (by decide) (by decide)
theorem c_Books_copyFrom (l : Launch) (hl : l.stackTraces = false) (μ : ZMem) (r : ZRes) (h : F_Books_copyFrom μ = some r) : ZC l cf_Books_copyFrom S_Books2 S_Books2 [zR (some 0), zR (some 6)] μ r := ZC.of hl (by decide +kernel) rfl rfl zft_X0_ok (Nat.le_of_ble_eq_true rfl) h (w_Books_copyFrom μ)
def S_Books3 : List ZSh := [.inl (0, [(2, some 1), (2, some 2), (2, some 3), (2, some 4), (2, some 5), (0, none), (0, none), (3, none)]), .inr (0, 7, []), .inr (1, 32, []), .inr (0, 24, []), .inr (1, 4, []), .inr (1, 6, [])]
theorem S_Books3_wf : zWfS S_Books3.length S_Books3 = true ∧ Nat.ble S_Books3.length 1000 = true := ⟨by decide +kernel, rfl⟩
/-! WeirLedger$Books.isDealwise()Z -/
def cf_Books_isDealwise : ZCf := (yX0_isDealwise, cX0_isDealwise, 1, some .boolean, [], 2, 0, 0, zft_X0, none)
theorem cal_Books_isDealwise : zCallee cf_Books_isDealwise 0 := ⟨rfl, zc_yX0_isDealwise, by decide, by decide, by decide +kernel⟩
def F_Books_isDealwise (μ : ZMem) : Option ZRes := zRd μ 1 7 3 (fun x1 => if w32 x1 = w32 1 then (some (.inr (some (zI 1)), μ)) else (some (.inr (some (zI 0)), μ)))
set_option maxRecDepth 100000 in
theorem w_Books_isDealwise (μ : ZMem) : AW cf_Books_isDealwise S_Books3.length S_Books3 S_Books3 0 [(0, zR (some 0))] [] μ 0 0 (F_Books_isDealwise μ) := by
  unfold F_Books_isDealwise
  refine AW.aload_n (i := 0) (a := 0) (by decide +kernel) rfl (?_ : AW _ _ _ _ 1 _ _ _ _ _ _)
  refine AW.getR (idx := 9) (ci := 0) (k := 0) (r := 0) (by decide +kernel) rfl rfl rfl (?_ : AW _ _ _ _ 4 _ _ _ _ _ _)
  refine AW.iconst (n := 3) (by decide +kernel) (?_ : AW _ _ _ _ 5 _ _ _ _ _ _)
  refine AW.iald (r := 1) (by decide +kernel) rfl (fun x1 => (?_ : AW _ _ _ _ 6 _ _ _ _ _ _))
  refine AW.iconst (n := 1) (by decide +kernel) (?_ : AW _ _ _ _ 7 _ _ _ _ _ _)
  refine AW.icmp_ne (off := 7) (tgt := 14) (by decide +kernel) (by decide) (fun _ => ?_) (fun _ => ?_)
  · refine AW.iconst (n := 1) (by decide +kernel) (?_ : AW _ _ _ _ 11 _ _ _ _ _ _)
    refine AW.goto (off := 4) (tgt := 15) (by decide +kernel) (by decide) ?_
    exact AW.retb1 (by decide +kernel) rfl (by decide) (by decide) (by decide)
  · refine AW.iconst (n := 0) (by decide +kernel) (?_ : AW _ _ _ _ 15 _ _ _ _ _ _)
    exact AW.retb1 (by decide +kernel) rfl (by decide) (by decide) (by decide)
theorem c_Books_isDealwise (l : Launch) (hl : l.stackTraces = false) (μ : ZMem) (r : ZRes) (h : F_Books_isDealwise μ = some r) : ZC l cf_Books_isDealwise S_Books3 S_Books3 [zR (some 0)] μ r := ZC.of hl (by decide +kernel) rfl rfl zft_X0_ok (Nat.le_of_ble_eq_true rfl) h (w_Books_isDealwise μ)
/-! WeirLedger$Books.isOpen(I)Z -/
def cf_Books_isOpen : ZCf := (yX0_isOpen, cX0_isOpen, 2, some .boolean, [], 2, 0, 0, zft_X0, none)
theorem cal_Books_isOpen : zCallee cf_Books_isOpen 1 := ⟨rfl, zc_yX0_isOpen, by decide, by decide, by decide +kernel⟩
def F_Books_isOpen (a1 : Int) (μ : ZMem) : Option ZRes := zRd μ 3 24 ((a1 * 4) + 3) (fun x1 => if w32 x1 = 0 then (some (.inr (some (zI 1)), μ)) else (some (.inr (some (zI 0)), μ)))
set_option maxRecDepth 100000 in
theorem w_Books_isOpen (a1 : Int) (μ : ZMem) : AW cf_Books_isOpen S_Books3.length S_Books3 S_Books3 0 [(0, zR (some 0)), (1, zI a1)] [] μ 0 0 (F_Books_isOpen a1 μ) := by
  unfold F_Books_isOpen
  refine AW.aload_n (i := 0) (a := 0) (by decide +kernel) rfl (?_ : AW _ _ _ _ 1 _ _ _ _ _ _)
  refine AW.getR (idx := 19) (ci := 0) (k := 2) (r := 0) (by decide +kernel) rfl rfl rfl (?_ : AW _ _ _ _ 4 _ _ _ _ _ _)
  refine AW.iload_n (i := 1) (a := a1) (by decide +kernel) rfl (?_ : AW _ _ _ _ 5 _ _ _ _ _ _)
  refine AW.iconst (n := 4) (by decide +kernel) (?_ : AW _ _ _ _ 6 _ _ _ _ _ _)
  refine AW.imul (by decide +kernel) (?_ : AW _ _ _ _ 7 _ _ _ _ _ _)
  refine AW.iconst (n := 3) (by decide +kernel) (?_ : AW _ _ _ _ 8 _ _ _ _ _ _)
  refine AW.iadd (by decide +kernel) (?_ : AW _ _ _ _ 9 _ _ _ _ _ _)
  refine AW.iald (r := 3) (by decide +kernel) rfl (fun x1 => (?_ : AW _ _ _ _ 10 _ _ _ _ _ _))
  refine AW.if_ne (off := 7) (tgt := 17) (by decide +kernel) (by decide) (fun _ => ?_) (fun _ => ?_)
  · refine AW.iconst (n := 1) (by decide +kernel) (?_ : AW _ _ _ _ 14 _ _ _ _ _ _)
    refine AW.goto (off := 4) (tgt := 18) (by decide +kernel) (by decide) ?_
    exact AW.retb1 (by decide +kernel) rfl (by decide) (by decide) (by decide)
  · refine AW.iconst (n := 0) (by decide +kernel) (?_ : AW _ _ _ _ 18 _ _ _ _ _ _)
    exact AW.retb1 (by decide +kernel) rfl (by decide) (by decide) (by decide)
theorem c_Books_isOpen (l : Launch) (hl : l.stackTraces = false) (a1 : Int) (μ : ZMem) (r : ZRes) (h : F_Books_isOpen a1 μ = some r) : ZC l cf_Books_isOpen S_Books3 S_Books3 [zR (some 0), zI a1] μ r := ZC.of hl (by decide +kernel) rfl rfl zft_X0_ok (Nat.le_of_ble_eq_true rfl) h (w_Books_isOpen a1 μ)
/-! WeirLedger$Books.openDeals()I -/
def cf_Books_openDeals : ZCf := (yX0_openDeals, cX0_openDeals, 3, some .int, [], 3, 0, 0, zft_X0, none)
theorem cal_Books_openDeals : zCallee cf_Books_openDeals 0 := ⟨rfl, zc_yX0_openDeals, by decide, by decide, by decide +kernel⟩
def J_Books_openDeals_26 (R : Int → Int → ZMem → Option ZRes) (K : Int → ZMem → Option ZRes) (u1 : Int) (u2 : Int) (μ : ZMem) : Option ZRes := zLet (u2 + 1) (fun x3 => R u1 x3 μ)
set_option maxRecDepth 100000 in
theorem j_Books_openDeals_26 {R : Int → Int → ZMem → Option ZRes} {K : Int → ZMem → Option ZRes} (hR : ∀ (v1 : Int) (v2 : Int) (μ : ZMem), AW cf_Books_openDeals S_Books3.length S_Books3 S_Books3 4 [(0, zR (some 0)), (1, zI v1), (2, zI v2)] [] μ 0 0 (R v1 v2 μ)) (hK : ∀ (k1 : Int) (μ : ZMem), AW cf_Books_openDeals S_Books3.length S_Books3 S_Books3 32 [(1, zI k1)] [] μ 0 0 (K k1 μ)) (u1 : Int) (u2 : Int) (μ : ZMem) : AW cf_Books_openDeals S_Books3.length S_Books3 S_Books3 26 [(0, zR (some 0)), (1, zI u1), (2, zI u2)] [] μ 0 0 (J_Books_openDeals_26 R K u1 u2 μ) := by
  unfold J_Books_openDeals_26
  refine AW.iincL (i := 2) (n := 1) (a := u2) (L' := fun x3 => [(2, zI x3), (0, zR (some 0)), (1, zI u1)]) (by decide +kernel) rfl (by decide) (fun _ => rfl) (fun x3 => (?_ : AW _ _ _ _ 29 _ _ _ _ _ _))
  refine AW.goto (off := -25) (tgt := 4) (by decide +kernel) (by decide) ?_
  refine AW.sub (L' := [(0, zR (some 0)), (1, zI u1), (2, zI x3)]) [1, 2, 0] rfl ?_
  exact hR u1 x3 μ
def L_Books_openDeals_4 (K : Int → ZMem → Option ZRes) : Nat → Int → Int → ZMem → Option ZRes
  | 0, _, _, _ => none
  | n + 1, v1, v2, μ => if w32 (μ 0 5) ≤ w32 v2 then (K v1 μ) else (zC (F_Books_isOpen v2 μ) (zkI (fun x2 μ1 => if w32 x2 = 0 then (J_Books_openDeals_26 (fun v1 v2 μ => L_Books_openDeals_4 K n v1 v2 μ) K v1 v2 μ1) else (zLet ((zor v1 (zshl 1 v2))) (fun x4 => J_Books_openDeals_26 (fun v1 v2 μ => L_Books_openDeals_4 K n v1 v2 μ) K x4 v2 μ1)))) zX0)
set_option maxRecDepth 100000 in
theorem l_Books_openDeals_4 {K : Int → ZMem → Option ZRes} (hK : ∀ (k1 : Int) (μ : ZMem), AW cf_Books_openDeals S_Books3.length S_Books3 S_Books3 32 [(1, zI k1)] [] μ 0 0 (K k1 μ)) : ∀ (n : Nat) (v1 : Int) (v2 : Int) (μ : ZMem), AW cf_Books_openDeals S_Books3.length S_Books3 S_Books3 4 [(0, zR (some 0)), (1, zI v1), (2, zI v2)] [] μ 0 0 (L_Books_openDeals_4 K n v1 v2 μ) := by
  intro n
  induction n with
  | zero => intro v1 v2 μ; exact AW.noth
  | succ n ih =>
    intro v1 v2 μ
    rw [L_Books_openDeals_4]
    refine AW.iload_n (i := 2) (a := v2) (by decide +kernel) rfl (?_ : AW _ _ _ _ 5 _ _ _ _ _ _)
    refine AW.aload_n (i := 0) (a := 0) (by decide +kernel) rfl (?_ : AW _ _ _ _ 6 _ _ _ _ _ _)
    refine AW.getI (idx := 50) (ci := 0) (k := 5) (r := 0) (by decide +kernel) rfl rfl rfl (?_ : AW _ _ _ _ 9 _ _ _ _ _ _)
    refine AW.icmp_ge (off := 23) (tgt := 32) (by decide +kernel) (by decide) (fun _ => ?_) (fun _ => ?_)
    · refine AW.sub (L' := [(1, zI v1)]) [1] rfl ?_
      exact hK v1 μ
    · refine AW.aload_n (i := 0) (a := 0) (by decide +kernel) rfl (?_ : AW _ _ _ _ 13 _ _ _ _ _ _)
      refine AW.iload_n (i := 2) (a := v2) (by decide +kernel) rfl (?_ : AW _ _ _ _ 14 _ _ _ _ _ _)
      refine AW.callVw (g := cf_Books_isOpen) (av := [zI v2]) (b0 := 0) (ci := 0) (idx := 58) (n := 1) (st := []) (by decide +kernel) (fun l hl r hr => c_Books_isOpen l hl v2 _ r hr) S_Books3_wf rfl cal_Books_isOpen rfl (zw4 zm_X0_58 zi_yX0_isOpen zs_yX0_isOpen zn_X0) rfl rfl ⟨by decide, by decide, by decide, by decide⟩ (Nat.le_of_ble_eq_true rfl) (Or.inl rfl) (fun v μ1 => AW.kI (fun x2 => (?_ : AW _ _ _ _ 17 _ _ _ _ _ _)) v)
      refine AW.if_eq (off := 9) (tgt := 26) (by decide +kernel) (by decide) (fun _ => ?_) (fun _ => ?_)
      · exact j_Books_openDeals_26 ih hK v1 v2 μ1
      · refine AW.iload_n (i := 1) (a := v1) (by decide +kernel) rfl (?_ : AW _ _ _ _ 21 _ _ _ _ _ _)
        refine AW.iconst (n := 1) (by decide +kernel) (?_ : AW _ _ _ _ 22 _ _ _ _ _ _)
        refine AW.iload_n (i := 2) (a := v2) (by decide +kernel) rfl (?_ : AW _ _ _ _ 23 _ _ _ _ _ _)
        refine AW.ishl (by decide +kernel) (?_ : AW _ _ _ _ 24 _ _ _ _ _ _)
        refine AW.ior (by decide +kernel) (?_ : AW _ _ _ _ 25 _ _ _ _ _ _)
        refine AW.istoreL_n (i := 1) (L' := fun x4 => [(1, zI x4), (0, zR (some 0)), (2, zI v2)]) (by decide +kernel) (by decide) (fun _ => rfl) (fun x4 => (?_ : AW _ _ _ _ 26 _ _ _ _ _ _))
        refine AW.sub (L' := [(0, zR (some 0)), (1, zI x4), (2, zI v2)]) [1, 0, 2] rfl ?_
        exact j_Books_openDeals_26 ih hK x4 v2 μ1
def F_Books_openDeals (μ : ZMem) : Option ZRes := L_Books_openDeals_4 (fun k6 μ5 => some (.inr (some (zI k6)), μ5)) zN 0 0 μ
set_option maxRecDepth 100000 in
theorem w_Books_openDeals (μ : ZMem) : AW cf_Books_openDeals S_Books3.length S_Books3 S_Books3 0 [(0, zR (some 0))] [] μ 0 0 (F_Books_openDeals μ) := by
  unfold F_Books_openDeals
  refine AW.iconst (n := 0) (by decide +kernel) (?_ : AW _ _ _ _ 1 _ _ _ _ _ _)
  refine AW.istore_n' (i := 1) (L' := [(1, zI 0), (0, zR (some 0))]) (by decide +kernel) (by decide) rfl (?_ : AW _ _ _ _ 2 _ _ _ _ _ _)
  refine AW.iconst (n := 0) (by decide +kernel) (?_ : AW _ _ _ _ 3 _ _ _ _ _ _)
  refine AW.istore_n' (i := 2) (L' := [(2, zI 0), (1, zI 0), (0, zR (some 0))]) (by decide +kernel) (by decide) rfl (?_ : AW _ _ _ _ 4 _ _ _ _ _ _)
  refine AW.sub (L' := [(0, zR (some 0)), (1, zI 0), (2, zI 0)]) [2, 1, 0] rfl ?_
  refine l_Books_openDeals_4 (fun k6 μ5 => ?_) zN _ _ _
  refine AW.iload_n (i := 1) (a := k6) (by decide +kernel) rfl (?_ : AW _ _ _ _ 33 _ _ _ _ _ _)
  exact AW.reti (by decide +kernel) rfl (by decide) (by decide)
theorem c_Books_openDeals (l : Launch) (hl : l.stackTraces = false) (μ : ZMem) (r : ZRes) (h : F_Books_openDeals μ = some r) : ZC l cf_Books_openDeals S_Books3 S_Books3 [zR (some 0)] μ r := ZC.of hl (by decide +kernel) rfl rfl zft_X0_ok (Nat.le_of_ble_eq_true rfl) h (w_Books_openDeals μ)
/-! WeirLedger$Books.extremeDeal(I)I -/
def cf_Books_extremeDeal : ZCf := (yX0_extremeDeal, cX0_extremeDeal, 6, some .int, [], 2, 0, 0, zft_X0, none)
theorem cal_Books_extremeDeal : zCallee cf_Books_extremeDeal 1 := ⟨rfl, zc_yX0_extremeDeal, by decide, by decide, by decide +kernel⟩
def J_Books_extremeDeal_60 (R : Int → Int → Int → Option ZRes) (K : Int → Option ZRes) (c1 : Int) (u2 : Int) (u3 : Int) (u4 : Int) (μ : ZMem) : Option ZRes := zLet (u4 + 1) (fun x4 => R u2 u3 x4)
set_option maxRecDepth 100000 in
theorem j_Books_extremeDeal_60 {R : Int → Int → Int → Option ZRes} {K : Int → Option ZRes} (μ : ZMem) (c1 : Int) (hR : ∀ (v2 : Int) (v3 : Int) (v4 : Int), AW cf_Books_extremeDeal S_Books3.length S_Books3 S_Books3 7 [(0, zR (some 0)), (1, zI c1), (2, zI v2), (3, zI v3), (4, zI v4)] [] μ 0 0 (R v2 v3 v4)) (hK : ∀ (k2 : Int), AW cf_Books_extremeDeal S_Books3.length S_Books3 S_Books3 66 [(2, zI k2)] [] μ 0 0 (K k2)) (u2 : Int) (u3 : Int) (u4 : Int) : AW cf_Books_extremeDeal S_Books3.length S_Books3 S_Books3 60 [(0, zR (some 0)), (1, zI c1), (2, zI u2), (3, zI u3), (4, zI u4)] [] μ 0 0 (J_Books_extremeDeal_60 R K c1 u2 u3 u4 μ) := by
  unfold J_Books_extremeDeal_60
  refine AW.iincL (i := 4) (n := 1) (a := u4) (L' := fun x4 => [(4, zI x4), (0, zR (some 0)), (1, zI c1), (2, zI u2), (3, zI u3)]) (by decide +kernel) rfl (by decide) (fun _ => rfl) (fun x4 => (?_ : AW _ _ _ _ 63 _ _ _ _ _ _))
  refine AW.goto (off := -56) (tgt := 7) (by decide +kernel) (by decide) ?_
  refine AW.sub (L' := [(0, zR (some 0)), (1, zI c1), (2, zI u2), (3, zI u3), (4, zI x4)]) [1, 2, 3, 4, 0] rfl ?_
  exact hR u2 u3 x4
def J_Books_extremeDeal_54 (R : Int → Int → Int → Option ZRes) (K : Int → Option ZRes) (c1 : Int) (u4 : Int) (u5 : Int) (μ : ZMem) : Option ZRes := J_Books_extremeDeal_60 R K c1 u4 u5 u4 μ
set_option maxRecDepth 100000 in
theorem j_Books_extremeDeal_54 {R : Int → Int → Int → Option ZRes} {K : Int → Option ZRes} (μ : ZMem) (c1 : Int) (hR : ∀ (v2 : Int) (v3 : Int) (v4 : Int), AW cf_Books_extremeDeal S_Books3.length S_Books3 S_Books3 7 [(0, zR (some 0)), (1, zI c1), (2, zI v2), (3, zI v3), (4, zI v4)] [] μ 0 0 (R v2 v3 v4)) (hK : ∀ (k2 : Int), AW cf_Books_extremeDeal S_Books3.length S_Books3 S_Books3 66 [(2, zI k2)] [] μ 0 0 (K k2)) (u4 : Int) (u5 : Int) : AW cf_Books_extremeDeal S_Books3.length S_Books3 S_Books3 54 [(0, zR (some 0)), (1, zI c1), (4, zI u4), (5, zI u5)] [] μ 0 0 (J_Books_extremeDeal_54 R K c1 u4 u5 μ) := by
  unfold J_Books_extremeDeal_54
  refine AW.iload (i := 4) (a := u4) (by decide +kernel) rfl (?_ : AW _ _ _ _ 56 _ _ _ _ _ _)
  refine AW.istore_n' (i := 2) (L' := [(2, zI u4), (0, zR (some 0)), (1, zI c1), (4, zI u4), (5, zI u5)]) (by decide +kernel) (by decide) rfl (?_ : AW _ _ _ _ 57 _ _ _ _ _ _)
  refine AW.iload (i := 5) (a := u5) (by decide +kernel) rfl (?_ : AW _ _ _ _ 59 _ _ _ _ _ _)
  refine AW.istore_n' (i := 3) (L' := [(3, zI u5), (2, zI u4), (0, zR (some 0)), (1, zI c1), (4, zI u4), (5, zI u5)]) (by decide +kernel) (by decide) rfl (?_ : AW _ _ _ _ 60 _ _ _ _ _ _)
  refine AW.sub (L' := [(0, zR (some 0)), (1, zI c1), (2, zI u4), (3, zI u5), (4, zI u4)]) [2, 3, 1, 0, 4] rfl ?_
  exact j_Books_extremeDeal_60 μ c1 hR hK u4 u5 u4
def L_Books_extremeDeal_7 (c1 : Int) (μ : ZMem) (K : Int → Option ZRes) : Nat → Int → Int → Int → Option ZRes
  | 0, _, _, _ => none
  | n + 1, v2, v3, v4 => if w32 (μ 0 5) ≤ w32 v4 then (K v2) else (zRd μ 3 24 ((v4 * 4) + 1) (fun x1 => zRd μ 3 24 ((v4 * 4) + 0) (fun x2 => zLet ((c1 * (x1 - x2))) (fun x3 => if w32 v2 = w32 (-1) then (J_Books_extremeDeal_54 (fun v2 v3 v4 => L_Books_extremeDeal_7 c1 μ K n v2 v3 v4) K c1 v4 x3 μ) else (if w32 x3 ≤ w32 v3 then (J_Books_extremeDeal_60 (fun v2 v3 v4 => L_Books_extremeDeal_7 c1 μ K n v2 v3 v4) K c1 v2 v3 v4 μ) else (J_Books_extremeDeal_54 (fun v2 v3 v4 => L_Books_extremeDeal_7 c1 μ K n v2 v3 v4) K c1 v4 x3 μ))))))
set_option maxRecDepth 100000 in
theorem l_Books_extremeDeal_7 {c1 : Int} {μ : ZMem} {K : Int → Option ZRes} (hK : ∀ (k2 : Int), AW cf_Books_extremeDeal S_Books3.length S_Books3 S_Books3 66 [(2, zI k2)] [] μ 0 0 (K k2)) : ∀ (n : Nat) (v2 : Int) (v3 : Int) (v4 : Int), AW cf_Books_extremeDeal S_Books3.length S_Books3 S_Books3 7 [(0, zR (some 0)), (1, zI c1), (2, zI v2), (3, zI v3), (4, zI v4)] [] μ 0 0 (L_Books_extremeDeal_7 c1 μ K n v2 v3 v4) := by
  intro n
  induction n with
  | zero => intro v2 v3 v4; exact AW.noth
  | succ n ih =>
    intro v2 v3 v4
    rw [L_Books_extremeDeal_7]
    refine AW.iload (i := 4) (a := v4) (by decide +kernel) rfl (?_ : AW _ _ _ _ 9 _ _ _ _ _ _)
    refine AW.aload_n (i := 0) (a := 0) (by decide +kernel) rfl (?_ : AW _ _ _ _ 10 _ _ _ _ _ _)
    refine AW.getI (idx := 50) (ci := 0) (k := 5) (r := 0) (by decide +kernel) rfl rfl rfl (?_ : AW _ _ _ _ 13 _ _ _ _ _ _)
    refine AW.icmp_ge (off := 53) (tgt := 66) (by decide +kernel) (by decide) (fun _ => ?_) (fun _ => ?_)
    · refine AW.sub (L' := [(2, zI v2)]) [2] rfl ?_
      exact hK v2
    · refine AW.iload_n (i := 1) (a := c1) (by decide +kernel) rfl (?_ : AW _ _ _ _ 17 _ _ _ _ _ _)
      refine AW.aload_n (i := 0) (a := 0) (by decide +kernel) rfl (?_ : AW _ _ _ _ 18 _ _ _ _ _ _)
      refine AW.getR (idx := 19) (ci := 0) (k := 2) (r := 0) (by decide +kernel) rfl rfl rfl (?_ : AW _ _ _ _ 21 _ _ _ _ _ _)
      refine AW.iload (i := 4) (a := v4) (by decide +kernel) rfl (?_ : AW _ _ _ _ 23 _ _ _ _ _ _)
      refine AW.iconst (n := 4) (by decide +kernel) (?_ : AW _ _ _ _ 24 _ _ _ _ _ _)
      refine AW.imul (by decide +kernel) (?_ : AW _ _ _ _ 25 _ _ _ _ _ _)
      refine AW.iconst (n := 1) (by decide +kernel) (?_ : AW _ _ _ _ 26 _ _ _ _ _ _)
      refine AW.iadd (by decide +kernel) (?_ : AW _ _ _ _ 27 _ _ _ _ _ _)
      refine AW.iald (r := 3) (by decide +kernel) rfl (fun x1 => (?_ : AW _ _ _ _ 28 _ _ _ _ _ _))
      refine AW.aload_n (i := 0) (a := 0) (by decide +kernel) rfl (?_ : AW _ _ _ _ 29 _ _ _ _ _ _)
      refine AW.getR (idx := 19) (ci := 0) (k := 2) (r := 0) (by decide +kernel) rfl rfl rfl (?_ : AW _ _ _ _ 32 _ _ _ _ _ _)
      refine AW.iload (i := 4) (a := v4) (by decide +kernel) rfl (?_ : AW _ _ _ _ 34 _ _ _ _ _ _)
      refine AW.iconst (n := 4) (by decide +kernel) (?_ : AW _ _ _ _ 35 _ _ _ _ _ _)
      refine AW.imul (by decide +kernel) (?_ : AW _ _ _ _ 36 _ _ _ _ _ _)
      refine AW.iconst (n := 0) (by decide +kernel) (?_ : AW _ _ _ _ 37 _ _ _ _ _ _)
      refine AW.iadd (by decide +kernel) (?_ : AW _ _ _ _ 38 _ _ _ _ _ _)
      refine AW.iald (r := 3) (by decide +kernel) rfl (fun x2 => (?_ : AW _ _ _ _ 39 _ _ _ _ _ _))
      refine AW.isub (by decide +kernel) (?_ : AW _ _ _ _ 40 _ _ _ _ _ _)
      refine AW.imul (by decide +kernel) (?_ : AW _ _ _ _ 41 _ _ _ _ _ _)
      refine AW.istoreL (i := 5) (L' := fun x3 => [(5, zI x3), (0, zR (some 0)), (1, zI c1), (2, zI v2), (3, zI v3), (4, zI v4)]) (by decide +kernel) (by decide) (fun _ => rfl) (fun x3 => (?_ : AW _ _ _ _ 43 _ _ _ _ _ _))
      refine AW.iload_n (i := 2) (a := v2) (by decide +kernel) rfl (?_ : AW _ _ _ _ 44 _ _ _ _ _ _)
      refine AW.iconst (n := -1) (by decide +kernel) (?_ : AW _ _ _ _ 45 _ _ _ _ _ _)
      refine AW.icmp_eq (off := 9) (tgt := 54) (by decide +kernel) (by decide) (fun _ => ?_) (fun _ => ?_)
      · refine AW.sub (L' := [(0, zR (some 0)), (1, zI c1), (4, zI v4), (5, zI x3)]) [1, 2, 5, 0] rfl ?_
        exact j_Books_extremeDeal_54 μ c1 ih hK v4 x3
      · refine AW.iload (i := 5) (a := x3) (by decide +kernel) rfl (?_ : AW _ _ _ _ 50 _ _ _ _ _ _)
        refine AW.iload_n (i := 3) (a := v3) (by decide +kernel) rfl (?_ : AW _ _ _ _ 51 _ _ _ _ _ _)
        refine AW.icmp_le (off := 9) (tgt := 60) (by decide +kernel) (by decide) (fun _ => ?_) (fun _ => ?_)
        · refine AW.sub (L' := [(0, zR (some 0)), (1, zI c1), (2, zI v2), (3, zI v3), (4, zI v4)]) [1, 2, 3, 4, 5] rfl ?_
          exact j_Books_extremeDeal_60 μ c1 ih hK v2 v3 v4
        · refine AW.sub (L' := [(0, zR (some 0)), (1, zI c1), (4, zI v4), (5, zI x3)]) [1, 2, 5, 0] rfl ?_
          exact j_Books_extremeDeal_54 μ c1 ih hK v4 x3
def F_Books_extremeDeal (a1 : Int) (μ : ZMem) : Option ZRes := L_Books_extremeDeal_7 a1 μ (fun k5 => some (.inr (some (zI k5)), μ)) zN (-1) 0 0
set_option maxRecDepth 100000 in
theorem w_Books_extremeDeal (a1 : Int) (μ : ZMem) : AW cf_Books_extremeDeal S_Books3.length S_Books3 S_Books3 0 [(0, zR (some 0)), (1, zI a1)] [] μ 0 0 (F_Books_extremeDeal a1 μ) := by
  unfold F_Books_extremeDeal
  refine AW.iconst (n := -1) (by decide +kernel) (?_ : AW _ _ _ _ 1 _ _ _ _ _ _)
  refine AW.istore_n' (i := 2) (L' := [(2, zI (-1)), (0, zR (some 0)), (1, zI a1)]) (by decide +kernel) (by decide) rfl (?_ : AW _ _ _ _ 2 _ _ _ _ _ _)
  refine AW.iconst (n := 0) (by decide +kernel) (?_ : AW _ _ _ _ 3 _ _ _ _ _ _)
  refine AW.istore_n' (i := 3) (L' := [(3, zI 0), (2, zI (-1)), (0, zR (some 0)), (1, zI a1)]) (by decide +kernel) (by decide) rfl (?_ : AW _ _ _ _ 4 _ _ _ _ _ _)
  refine AW.iconst (n := 0) (by decide +kernel) (?_ : AW _ _ _ _ 5 _ _ _ _ _ _)
  refine AW.istore' (i := 4) (L' := [(4, zI 0), (3, zI 0), (2, zI (-1)), (0, zR (some 0)), (1, zI a1)]) (by decide +kernel) (by decide) rfl (?_ : AW _ _ _ _ 7 _ _ _ _ _ _)
  refine AW.sub (L' := [(0, zR (some 0)), (1, zI a1), (2, zI (-1)), (3, zI 0), (4, zI 0)]) [3, 4, 2, 1, 0] rfl ?_
  refine l_Books_extremeDeal_7 (fun k5 => ?_) zN _ _ _
  refine AW.iload_n (i := 2) (a := k5) (by decide +kernel) rfl (?_ : AW _ _ _ _ 67 _ _ _ _ _ _)
  exact AW.reti (by decide +kernel) rfl (by decide) (by decide)
theorem c_Books_extremeDeal (l : Launch) (hl : l.stackTraces = false) (a1 : Int) (μ : ZMem) (r : ZRes) (h : F_Books_extremeDeal a1 μ = some r) : ZC l cf_Books_extremeDeal S_Books3 S_Books3 [zR (some 0), zI a1] μ r := ZC.of hl (by decide +kernel) rfl rfl zft_X0_ok (Nat.le_of_ble_eq_true rfl) h (w_Books_extremeDeal a1 μ)
/-! WeirLedger$Books.standing(I)J -/
def cf_Books_standing : ZCf := (yX0_standing, cX0_standing, 2, some .long, [], 2, 0, 0, zft_X0, none)
theorem cal_Books_standing : zCallee cf_Books_standing 1 := ⟨rfl, zc_yX0_standing, by decide, by decide, by decide +kernel⟩
def F_Books_standing (a1 : Int) (μ : ZMem) : Option ZRes := zRd μ 2 32 ((a1 * 4) + 0) (fun x1 => zRd μ 2 32 ((a1 * 4) + 1) (fun x2 => some (.inr (some (zJ (x1 + x2))), μ)))
set_option maxRecDepth 100000 in
theorem w_Books_standing (a1 : Int) (μ : ZMem) : AW cf_Books_standing S_Books3.length S_Books3 S_Books3 0 [(0, zR (some 0)), (1, zI a1)] [] μ 0 0 (F_Books_standing a1 μ) := by
  unfold F_Books_standing
  refine AW.aload_n (i := 0) (a := 0) (by decide +kernel) rfl (?_ : AW _ _ _ _ 1 _ _ _ _ _ _)
  refine AW.getR (idx := 15) (ci := 0) (k := 1) (r := 0) (by decide +kernel) rfl rfl rfl (?_ : AW _ _ _ _ 4 _ _ _ _ _ _)
  refine AW.iload_n (i := 1) (a := a1) (by decide +kernel) rfl (?_ : AW _ _ _ _ 5 _ _ _ _ _ _)
  refine AW.iconst (n := 4) (by decide +kernel) (?_ : AW _ _ _ _ 6 _ _ _ _ _ _)
  refine AW.imul (by decide +kernel) (?_ : AW _ _ _ _ 7 _ _ _ _ _ _)
  refine AW.iconst (n := 0) (by decide +kernel) (?_ : AW _ _ _ _ 8 _ _ _ _ _ _)
  refine AW.iadd (by decide +kernel) (?_ : AW _ _ _ _ 9 _ _ _ _ _ _)
  refine AW.lald (r := 2) (by decide +kernel) rfl (fun x1 => (?_ : AW _ _ _ _ 10 _ _ _ _ _ _))
  refine AW.aload_n (i := 0) (a := 0) (by decide +kernel) rfl (?_ : AW _ _ _ _ 11 _ _ _ _ _ _)
  refine AW.getR (idx := 15) (ci := 0) (k := 1) (r := 0) (by decide +kernel) rfl rfl rfl (?_ : AW _ _ _ _ 14 _ _ _ _ _ _)
  refine AW.iload_n (i := 1) (a := a1) (by decide +kernel) rfl (?_ : AW _ _ _ _ 15 _ _ _ _ _ _)
  refine AW.iconst (n := 4) (by decide +kernel) (?_ : AW _ _ _ _ 16 _ _ _ _ _ _)
  refine AW.imul (by decide +kernel) (?_ : AW _ _ _ _ 17 _ _ _ _ _ _)
  refine AW.iconst (n := 1) (by decide +kernel) (?_ : AW _ _ _ _ 18 _ _ _ _ _ _)
  refine AW.iadd (by decide +kernel) (?_ : AW _ _ _ _ 19 _ _ _ _ _ _)
  refine AW.lald (r := 2) (by decide +kernel) rfl (fun x2 => (?_ : AW _ _ _ _ 20 _ _ _ _ _ _))
  refine AW.ladd (by decide +kernel) (?_ : AW _ _ _ _ 21 _ _ _ _ _ _)
  exact AW.retl (by decide +kernel) rfl (by decide) (by decide)
theorem c_Books_standing (l : Launch) (hl : l.stackTraces = false) (a1 : Int) (μ : ZMem) (r : ZRes) (h : F_Books_standing a1 μ = some r) : ZC l cf_Books_standing S_Books3 S_Books3 [zR (some 0), zI a1] μ r := ZC.of hl (by decide +kernel) rfl rfl zft_X0_ok (Nat.le_of_ble_eq_true rfl) h (w_Books_standing a1 μ)
/-! WeirLedger$Books.netTaken()J -/
def cf_Books_netTaken : ZCf := (yX0_netTaken, cX0_netTaken, 1, some .long, [], 2, 0, 0, zft_X0, none)
theorem cal_Books_netTaken : zCallee cf_Books_netTaken 0 := ⟨rfl, zc_yX0_netTaken, by decide, by decide, by decide +kernel⟩
def F_Books_netTaken (μ : ZMem) : Option ZRes := zRd μ 4 4 0 (fun x1 => zRd μ 4 4 3 (fun x2 => some (.inr (some (zJ (x1 - x2))), μ)))
set_option maxRecDepth 100000 in
theorem w_Books_netTaken (μ : ZMem) : AW cf_Books_netTaken S_Books3.length S_Books3 S_Books3 0 [(0, zR (some 0))] [] μ 0 0 (F_Books_netTaken μ) := by
  unfold F_Books_netTaken
  refine AW.aload_n (i := 0) (a := 0) (by decide +kernel) rfl (?_ : AW _ _ _ _ 1 _ _ _ _ _ _)
  refine AW.getR (idx := 22) (ci := 0) (k := 3) (r := 0) (by decide +kernel) rfl rfl rfl (?_ : AW _ _ _ _ 4 _ _ _ _ _ _)
  refine AW.iconst (n := 0) (by decide +kernel) (?_ : AW _ _ _ _ 5 _ _ _ _ _ _)
  refine AW.lald (r := 4) (by decide +kernel) rfl (fun x1 => (?_ : AW _ _ _ _ 6 _ _ _ _ _ _))
  refine AW.aload_n (i := 0) (a := 0) (by decide +kernel) rfl (?_ : AW _ _ _ _ 7 _ _ _ _ _ _)
  refine AW.getR (idx := 22) (ci := 0) (k := 3) (r := 0) (by decide +kernel) rfl rfl rfl (?_ : AW _ _ _ _ 10 _ _ _ _ _ _)
  refine AW.iconst (n := 3) (by decide +kernel) (?_ : AW _ _ _ _ 11 _ _ _ _ _ _)
  refine AW.lald (r := 4) (by decide +kernel) rfl (fun x2 => (?_ : AW _ _ _ _ 12 _ _ _ _ _ _))
  refine AW.lsub (by decide +kernel) (?_ : AW _ _ _ _ 13 _ _ _ _ _ _)
  exact AW.retl (by decide +kernel) rfl (by decide) (by decide)
theorem c_Books_netTaken (l : Launch) (hl : l.stackTraces = false) (μ : ZMem) (r : ZRes) (h : F_Books_netTaken μ = some r) : ZC l cf_Books_netTaken S_Books3 S_Books3 [zR (some 0)] μ r := ZC.of hl (by decide +kernel) rfl rfl zft_X0_ok (Nat.le_of_ble_eq_true rfl) h (w_Books_netTaken μ)
/-! WeirLedger$Books.raise(II)V -/
def cf_Books_raise : ZCf := (yX0_raise, cX0_raise, 3, none, [], 3, 0, 0, zft_X0, none)
theorem cal_Books_raise : zCallee cf_Books_raise 2 := ⟨rfl, zc_yX0_raise, by decide, by decide, by decide +kernel⟩
def F_Books_raise (a1 : Int) (a2 : Int) (μ : ZMem) : Option ZRes := zRd μ 3 24 ((a1 * 4) + 0) (fun x1 => zWr μ 3 24 ((a1 * 4) + 0) (x1 + a2) (fun μ2 => zRd μ2 2 32 24 (fun x3 => zWr μ2 2 32 24 (x3 + (w32 a2)) (fun μ4 => zC (F_Books_isDealwise  μ4) (zkI (fun x6 μ5 => if w32 x6 = 0 then (some (.inr none, μ5)) else (zRd μ5 2 32 ((a1 * 4) + 0) (fun x7 => zWr μ5 2 32 ((a1 * 4) + 0) (x7 + (w32 a2)) (fun μ8 => some (.inr none, μ8)))))) zX0))))
set_option maxRecDepth 100000 in
theorem w_Books_raise (a1 : Int) (a2 : Int) (μ : ZMem) : AW cf_Books_raise S_Books3.length S_Books3 S_Books3 0 [(0, zR (some 0)), (1, zI a1), (2, zI a2)] [] μ 0 0 (F_Books_raise a1 a2 μ) := by
  unfold F_Books_raise
  refine AW.aload_n (i := 0) (a := 0) (by decide +kernel) rfl (?_ : AW _ _ _ _ 1 _ _ _ _ _ _)
  refine AW.getR (idx := 19) (ci := 0) (k := 2) (r := 0) (by decide +kernel) rfl rfl rfl (?_ : AW _ _ _ _ 4 _ _ _ _ _ _)
  refine AW.iload_n (i := 1) (a := a1) (by decide +kernel) rfl (?_ : AW _ _ _ _ 5 _ _ _ _ _ _)
  refine AW.iconst (n := 4) (by decide +kernel) (?_ : AW _ _ _ _ 6 _ _ _ _ _ _)
  refine AW.imul (by decide +kernel) (?_ : AW _ _ _ _ 7 _ _ _ _ _ _)
  refine AW.iconst (n := 0) (by decide +kernel) (?_ : AW _ _ _ _ 8 _ _ _ _ _ _)
  refine AW.iadd (by decide +kernel) (?_ : AW _ _ _ _ 9 _ _ _ _ _ _)
  refine AW.dup2 (by decide +kernel) rfl rfl (?_ : AW _ _ _ _ 10 _ _ _ _ _ _)
  refine AW.iald (r := 3) (by decide +kernel) rfl (fun x1 => (?_ : AW _ _ _ _ 11 _ _ _ _ _ _))
  refine AW.iload_n (i := 2) (a := a2) (by decide +kernel) rfl (?_ : AW _ _ _ _ 12 _ _ _ _ _ _)
  refine AW.iadd (by decide +kernel) (?_ : AW _ _ _ _ 13 _ _ _ _ _ _)
  refine AW.iastL (r := 3) (by decide +kernel) rfl (fun μ2 => (?_ : AW _ _ _ _ 14 _ _ _ _ _ _))
  refine AW.aload_n (i := 0) (a := 0) (by decide +kernel) rfl (?_ : AW _ _ _ _ 15 _ _ _ _ _ _)
  refine AW.getR (idx := 15) (ci := 0) (k := 1) (r := 0) (by decide +kernel) rfl rfl rfl (?_ : AW _ _ _ _ 18 _ _ _ _ _ _)
  refine AW.bipush (n := 24) (by decide +kernel) (by decide +kernel) (?_ : AW _ _ _ _ 20 _ _ _ _ _ _)
  refine AW.dup2 (by decide +kernel) rfl rfl (?_ : AW _ _ _ _ 21 _ _ _ _ _ _)
  refine AW.lald (r := 2) (by decide +kernel) rfl (fun x3 => (?_ : AW _ _ _ _ 22 _ _ _ _ _ _))
  refine AW.iload_n (i := 2) (a := a2) (by decide +kernel) rfl (?_ : AW _ _ _ _ 23 _ _ _ _ _ _)
  refine AW.i2l (by decide +kernel) (?_ : AW _ _ _ _ 24 _ _ _ _ _ _)
  refine AW.ladd (by decide +kernel) (?_ : AW _ _ _ _ 25 _ _ _ _ _ _)
  refine AW.lastL (r := 2) (by decide +kernel) rfl (fun μ4 => (?_ : AW _ _ _ _ 26 _ _ _ _ _ _))
  refine AW.aload_n (i := 0) (a := 0) (by decide +kernel) rfl (?_ : AW _ _ _ _ 27 _ _ _ _ _ _)
  refine AW.callVw (g := cf_Books_isDealwise) (av := []) (b0 := 0) (ci := 0) (idx := 62) (n := 0) (st := []) (by decide +kernel) (fun l hl r hr => c_Books_isDealwise l hl  _ r hr) S_Books3_wf rfl cal_Books_isDealwise rfl (zw4 zm_X0_62 zi_yX0_isDealwise zs_yX0_isDealwise zn_X0) rfl rfl ⟨by decide, by decide, by decide, by decide⟩ (Nat.le_of_ble_eq_true rfl) (Or.inl rfl) (fun v μ5 => AW.kI (fun x6 => (?_ : AW _ _ _ _ 30 _ _ _ _ _ _)) v)
  refine AW.if_eq (off := 18) (tgt := 48) (by decide +kernel) (by decide) (fun _ => ?_) (fun _ => ?_)
  · exact AW.retv (by decide +kernel) rfl (by decide) (by decide)
  · refine AW.aload_n (i := 0) (a := 0) (by decide +kernel) rfl (?_ : AW _ _ _ _ 34 _ _ _ _ _ _)
    refine AW.getR (idx := 15) (ci := 0) (k := 1) (r := 0) (by decide +kernel) rfl rfl rfl (?_ : AW _ _ _ _ 37 _ _ _ _ _ _)
    refine AW.iload_n (i := 1) (a := a1) (by decide +kernel) rfl (?_ : AW _ _ _ _ 38 _ _ _ _ _ _)
    refine AW.iconst (n := 4) (by decide +kernel) (?_ : AW _ _ _ _ 39 _ _ _ _ _ _)
    refine AW.imul (by decide +kernel) (?_ : AW _ _ _ _ 40 _ _ _ _ _ _)
    refine AW.iconst (n := 0) (by decide +kernel) (?_ : AW _ _ _ _ 41 _ _ _ _ _ _)
    refine AW.iadd (by decide +kernel) (?_ : AW _ _ _ _ 42 _ _ _ _ _ _)
    refine AW.dup2 (by decide +kernel) rfl rfl (?_ : AW _ _ _ _ 43 _ _ _ _ _ _)
    refine AW.lald (r := 2) (by decide +kernel) rfl (fun x7 => (?_ : AW _ _ _ _ 44 _ _ _ _ _ _))
    refine AW.iload_n (i := 2) (a := a2) (by decide +kernel) rfl (?_ : AW _ _ _ _ 45 _ _ _ _ _ _)
    refine AW.i2l (by decide +kernel) (?_ : AW _ _ _ _ 46 _ _ _ _ _ _)
    refine AW.ladd (by decide +kernel) (?_ : AW _ _ _ _ 47 _ _ _ _ _ _)
    refine AW.lastL (r := 2) (by decide +kernel) rfl (fun μ8 => (?_ : AW _ _ _ _ 48 _ _ _ _ _ _))
    exact AW.retv (by decide +kernel) rfl (by decide) (by decide)
theorem c_Books_raise (l : Launch) (hl : l.stackTraces = false) (a1 : Int) (a2 : Int) (μ : ZMem) (r : ZRes) (h : F_Books_raise a1 a2 μ = some r) : ZC l cf_Books_raise S_Books3 S_Books3 [zR (some 0), zI a1, zI a2] μ r := ZC.of hl (by decide +kernel) rfl rfl zft_X0_ok (Nat.le_of_ble_eq_true rfl) h (w_Books_raise a1 a2 μ)
/-! WeirLedger$Books.remark(II)I -/
def cf_Books_remark : ZCf := (yX0_remark, cX0_remark, 4, some .int, [], 2, 0, 0, zft_X0, none)
theorem cal_Books_remark : zCallee cf_Books_remark 2 := ⟨rfl, zc_yX0_remark, by decide, by decide, by decide +kernel⟩
def F_Books_remark (a1 : Int) (a2 : Int) (μ : ZMem) : Option ZRes := zRd μ 3 24 ((a1 * 4) + 2) (fun x1 => zWr μ 3 24 ((a1 * 4) + 2) a2 (fun μ2 => some (.inr (some (zI x1)), μ2)))
set_option maxRecDepth 100000 in
theorem w_Books_remark (a1 : Int) (a2 : Int) (μ : ZMem) : AW cf_Books_remark S_Books3.length S_Books3 S_Books3 0 [(0, zR (some 0)), (1, zI a1), (2, zI a2)] [] μ 0 0 (F_Books_remark a1 a2 μ) := by
  unfold F_Books_remark
  refine AW.aload_n (i := 0) (a := 0) (by decide +kernel) rfl (?_ : AW _ _ _ _ 1 _ _ _ _ _ _)
  refine AW.getR (idx := 19) (ci := 0) (k := 2) (r := 0) (by decide +kernel) rfl rfl rfl (?_ : AW _ _ _ _ 4 _ _ _ _ _ _)
  refine AW.iload_n (i := 1) (a := a1) (by decide +kernel) rfl (?_ : AW _ _ _ _ 5 _ _ _ _ _ _)
  refine AW.iconst (n := 4) (by decide +kernel) (?_ : AW _ _ _ _ 6 _ _ _ _ _ _)
  refine AW.imul (by decide +kernel) (?_ : AW _ _ _ _ 7 _ _ _ _ _ _)
  refine AW.iconst (n := 2) (by decide +kernel) (?_ : AW _ _ _ _ 8 _ _ _ _ _ _)
  refine AW.iadd (by decide +kernel) (?_ : AW _ _ _ _ 9 _ _ _ _ _ _)
  refine AW.iald (r := 3) (by decide +kernel) rfl (fun x1 => (?_ : AW _ _ _ _ 10 _ _ _ _ _ _))
  refine AW.istore_n' (i := 3) (L' := [(3, zI x1), (0, zR (some 0)), (1, zI a1), (2, zI a2)]) (by decide +kernel) (by decide) rfl (?_ : AW _ _ _ _ 11 _ _ _ _ _ _)
  refine AW.aload_n (i := 0) (a := 0) (by decide +kernel) rfl (?_ : AW _ _ _ _ 12 _ _ _ _ _ _)
  refine AW.getR (idx := 19) (ci := 0) (k := 2) (r := 0) (by decide +kernel) rfl rfl rfl (?_ : AW _ _ _ _ 15 _ _ _ _ _ _)
  refine AW.iload_n (i := 1) (a := a1) (by decide +kernel) rfl (?_ : AW _ _ _ _ 16 _ _ _ _ _ _)
  refine AW.iconst (n := 4) (by decide +kernel) (?_ : AW _ _ _ _ 17 _ _ _ _ _ _)
  refine AW.imul (by decide +kernel) (?_ : AW _ _ _ _ 18 _ _ _ _ _ _)
  refine AW.iconst (n := 2) (by decide +kernel) (?_ : AW _ _ _ _ 19 _ _ _ _ _ _)
  refine AW.iadd (by decide +kernel) (?_ : AW _ _ _ _ 20 _ _ _ _ _ _)
  refine AW.iload_n (i := 2) (a := a2) (by decide +kernel) rfl (?_ : AW _ _ _ _ 21 _ _ _ _ _ _)
  refine AW.iastL (r := 3) (by decide +kernel) rfl (fun μ2 => (?_ : AW _ _ _ _ 22 _ _ _ _ _ _))
  refine AW.iload_n (i := 3) (a := x1) (by decide +kernel) rfl (?_ : AW _ _ _ _ 23 _ _ _ _ _ _)
  exact AW.reti (by decide +kernel) rfl (by decide) (by decide)
theorem c_Books_remark (l : Launch) (hl : l.stackTraces = false) (a1 : Int) (a2 : Int) (μ : ZMem) (r : ZRes) (h : F_Books_remark a1 a2 μ = some r) : ZC l cf_Books_remark S_Books3 S_Books3 [zR (some 0), zI a1, zI a2] μ r := ZC.of hl (by decide +kernel) rfl rfl zft_X0_ok (Nat.le_of_ble_eq_true rfl) h (w_Books_remark a1 a2 μ)
/-! WeirLedger$Books.pass(J)V -/
def cf_Books_pass : ZCf := (yX0_pass, cX0_pass, 7, none, [], 3, 0, 0, zft_X0, none)
theorem cal_Books_pass : zCallee cf_Books_pass 1 := ⟨rfl, zc_yX0_pass, by decide, by decide, by decide +kernel⟩
def J_Books_pass_79 (R : Int → ZMem → Option ZRes) (K : ZMem → Option ZRes) (c1 : Int) (c3 : Int) (u4 : Int) (μ : ZMem) : Option ZRes := zLet (u4 + 4) (fun x5 => R x5 μ)
set_option maxRecDepth 100000 in
theorem j_Books_pass_79 {R : Int → ZMem → Option ZRes} {K : ZMem → Option ZRes} (c1 : Int) (c3 : Int) (hR : ∀ (v4 : Int) (μ : ZMem), AW cf_Books_pass S_Books3.length S_Books3 S_Books3 10 [(0, zR (some 0)), (1, zJ c1), (3, zI c3), (4, zI v4)] [] μ 0 0 (R v4 μ)) (hK : ∀ (μ : ZMem), AW cf_Books_pass S_Books3.length S_Books3 S_Books3 85 [(0, zR (some 0)), (1, zJ c1)] [] μ 0 0 (K μ)) (u4 : Int) (μ : ZMem) : AW cf_Books_pass S_Books3.length S_Books3 S_Books3 79 [(0, zR (some 0)), (1, zJ c1), (3, zI c3), (4, zI u4)] [] μ 0 0 (J_Books_pass_79 R K c1 c3 u4 μ) := by
  unfold J_Books_pass_79
  refine AW.iincL (i := 4) (n := 4) (a := u4) (L' := fun x5 => [(4, zI x5), (0, zR (some 0)), (1, zJ c1), (3, zI c3)]) (by decide +kernel) rfl (by decide) (fun _ => rfl) (fun x5 => (?_ : AW _ _ _ _ 82 _ _ _ _ _ _))
  refine AW.goto (off := -72) (tgt := 10) (by decide +kernel) (by decide) ?_
  refine AW.sub (L' := [(0, zR (some 0)), (1, zJ c1), (3, zI c3), (4, zI x5)]) [1, 2, 3, 0] rfl ?_
  exact hR x5 μ
def L_Books_pass_10 (c1 : Int) (c3 : Int) (K : ZMem → Option ZRes) : Nat → Int → ZMem → Option ZRes
  | 0, _, _ => none
  | n + 1, v4, μ => if w32 32 ≤ w32 v4 then (K  μ) else (zRd μ 2 32 (v4 + 0) (fun x2 => zRd μ 2 32 (v4 + 1) (fun x3 => zLet ((x2 + x3)) (fun x4 => if w64 x4 ≤ w64 0 then (J_Books_pass_79 (fun v4 μ => L_Books_pass_10 c1 c3 K n v4 μ) K c1 c3 v4 μ) else (zRd μ 2 32 (v4 + 1) (fun x6 => zWr μ 2 32 (v4 + 1) (zminJ (x6 + ((w64 (x4 * (w32 c3))).tdiv (w64 10000))) 1000000000) (fun μ7 => J_Books_pass_79 (fun v4 μ => L_Books_pass_10 c1 c3 K n v4 μ) K c1 c3 v4 μ7)))))))
set_option maxRecDepth 100000 in
theorem l_Books_pass_10 {c1 : Int} {c3 : Int} {K : ZMem → Option ZRes} (hK : ∀ (μ : ZMem), AW cf_Books_pass S_Books3.length S_Books3 S_Books3 85 [(0, zR (some 0)), (1, zJ c1)] [] μ 0 0 (K μ)) : ∀ (n : Nat) (v4 : Int) (μ : ZMem), AW cf_Books_pass S_Books3.length S_Books3 S_Books3 10 [(0, zR (some 0)), (1, zJ c1), (3, zI c3), (4, zI v4)] [] μ 0 0 (L_Books_pass_10 c1 c3 K n v4 μ) := by
  intro n
  induction n with
  | zero => intro v4 μ; exact AW.noth
  | succ n ih =>
    intro v4 μ
    rw [L_Books_pass_10]
    refine AW.iload (i := 4) (a := v4) (by decide +kernel) rfl (?_ : AW _ _ _ _ 12 _ _ _ _ _ _)
    refine AW.bipush (n := 32) (by decide +kernel) (by decide +kernel) (?_ : AW _ _ _ _ 14 _ _ _ _ _ _)
    refine AW.icmp_ge (off := 71) (tgt := 85) (by decide +kernel) (by decide) (fun _ => ?_) (fun _ => ?_)
    · refine AW.sub (L' := [(0, zR (some 0)), (1, zJ c1)]) [0, 1] rfl ?_
      exact hK  μ
    · refine AW.aload_n (i := 0) (a := 0) (by decide +kernel) rfl (?_ : AW _ _ _ _ 18 _ _ _ _ _ _)
      refine AW.getR (idx := 15) (ci := 0) (k := 1) (r := 0) (by decide +kernel) rfl rfl rfl (?_ : AW _ _ _ _ 21 _ _ _ _ _ _)
      refine AW.iload (i := 4) (a := v4) (by decide +kernel) rfl (?_ : AW _ _ _ _ 23 _ _ _ _ _ _)
      refine AW.iconst (n := 0) (by decide +kernel) (?_ : AW _ _ _ _ 24 _ _ _ _ _ _)
      refine AW.iadd (by decide +kernel) (?_ : AW _ _ _ _ 25 _ _ _ _ _ _)
      refine AW.lald (r := 2) (by decide +kernel) rfl (fun x2 => (?_ : AW _ _ _ _ 26 _ _ _ _ _ _))
      refine AW.aload_n (i := 0) (a := 0) (by decide +kernel) rfl (?_ : AW _ _ _ _ 27 _ _ _ _ _ _)
      refine AW.getR (idx := 15) (ci := 0) (k := 1) (r := 0) (by decide +kernel) rfl rfl rfl (?_ : AW _ _ _ _ 30 _ _ _ _ _ _)
      refine AW.iload (i := 4) (a := v4) (by decide +kernel) rfl (?_ : AW _ _ _ _ 32 _ _ _ _ _ _)
      refine AW.iconst (n := 1) (by decide +kernel) (?_ : AW _ _ _ _ 33 _ _ _ _ _ _)
      refine AW.iadd (by decide +kernel) (?_ : AW _ _ _ _ 34 _ _ _ _ _ _)
      refine AW.lald (r := 2) (by decide +kernel) rfl (fun x3 => (?_ : AW _ _ _ _ 35 _ _ _ _ _ _))
      refine AW.ladd (by decide +kernel) (?_ : AW _ _ _ _ 36 _ _ _ _ _ _)
      refine AW.lstoreL (i := 5) (L' := fun x4 => [(5, zJ x4), (0, zR (some 0)), (1, zJ c1), (3, zI c3), (4, zI v4)]) (by decide +kernel) (by decide) (fun _ => rfl) (fun x4 => (?_ : AW _ _ _ _ 38 _ _ _ _ _ _))
      refine AW.lload (i := 5) (a := x4) (by decide +kernel) rfl (?_ : AW _ _ _ _ 40 _ _ _ _ _ _)
      refine AW.lconst0 (by decide +kernel) (?_ : AW _ _ _ _ 41 _ _ _ _ _ _)
      refine AW.lcmp_le (off := 37) (tgt := 79) (by decide +kernel) (by decide +kernel) (by decide) (fun _ => ?_) (fun _ => ?_)
      · refine AW.sub (L' := [(0, zR (some 0)), (1, zJ c1), (3, zI c3), (4, zI v4)]) [1, 2, 3, 4] rfl ?_
        exact j_Books_pass_79 c1 c3 ih hK v4 μ
      · refine AW.aload_n (i := 0) (a := 0) (by decide +kernel) rfl (?_ : AW _ _ _ _ 46 _ _ _ _ _ _)
        refine AW.getR (idx := 15) (ci := 0) (k := 1) (r := 0) (by decide +kernel) rfl rfl rfl (?_ : AW _ _ _ _ 49 _ _ _ _ _ _)
        refine AW.iload (i := 4) (a := v4) (by decide +kernel) rfl (?_ : AW _ _ _ _ 51 _ _ _ _ _ _)
        refine AW.iconst (n := 1) (by decide +kernel) (?_ : AW _ _ _ _ 52 _ _ _ _ _ _)
        refine AW.iadd (by decide +kernel) (?_ : AW _ _ _ _ 53 _ _ _ _ _ _)
        refine AW.aload_n (i := 0) (a := 0) (by decide +kernel) rfl (?_ : AW _ _ _ _ 54 _ _ _ _ _ _)
        refine AW.getR (idx := 15) (ci := 0) (k := 1) (r := 0) (by decide +kernel) rfl rfl rfl (?_ : AW _ _ _ _ 57 _ _ _ _ _ _)
        refine AW.iload (i := 4) (a := v4) (by decide +kernel) rfl (?_ : AW _ _ _ _ 59 _ _ _ _ _ _)
        refine AW.iconst (n := 1) (by decide +kernel) (?_ : AW _ _ _ _ 60 _ _ _ _ _ _)
        refine AW.iadd (by decide +kernel) (?_ : AW _ _ _ _ 61 _ _ _ _ _ _)
        refine AW.lald (r := 2) (by decide +kernel) rfl (fun x6 => (?_ : AW _ _ _ _ 62 _ _ _ _ _ _))
        refine AW.lload (i := 5) (a := x4) (by decide +kernel) rfl (?_ : AW _ _ _ _ 64 _ _ _ _ _ _)
        refine AW.iload_n (i := 3) (a := c3) (by decide +kernel) rfl (?_ : AW _ _ _ _ 65 _ _ _ _ _ _)
        refine AW.i2l (by decide +kernel) (?_ : AW _ _ _ _ 66 _ _ _ _ _ _)
        refine AW.lmul (by decide +kernel) (?_ : AW _ _ _ _ 67 _ _ _ _ _ _)
        refine AW.ldc2 (idx := 66) (v := 10000) (by decide +kernel) zk_X0_66 (?_ : AW _ _ _ _ 70 _ _ _ _ _ _)
        refine AW.ldiv (by decide +kernel) (by decide +kernel) (?_ : AW _ _ _ _ 71 _ _ _ _ _ _)
        refine AW.ladd (by decide +kernel) (?_ : AW _ _ _ _ 72 _ _ _ _ _ _)
        refine AW.ldc2 (idx := 68) (v := 1000000000) (by decide +kernel) zk_X0_68 (?_ : AW _ _ _ _ 75 _ _ _ _ _ _)
        refine AW.minJ (idx := 70) (by decide +kernel) zm_X0_70 rfl (?_ : AW _ _ _ _ 78 _ _ _ _ _ _)
        refine AW.lastL (r := 2) (by decide +kernel) rfl (fun μ7 => (?_ : AW _ _ _ _ 79 _ _ _ _ _ _))
        refine AW.sub (L' := [(0, zR (some 0)), (1, zJ c1), (3, zI c3), (4, zI v4)]) [1, 2, 3, 4] rfl ?_
        exact j_Books_pass_79 c1 c3 ih hK v4 μ7
def J_Books_pass_114 (μ : ZMem) : Option ZRes := zLet (zUp μ 0 6 ((μ 0 6) + 1)) (fun μ13 => some (.inr none, μ13))
set_option maxRecDepth 100000 in
theorem j_Books_pass_114 (μ : ZMem) : AW cf_Books_pass S_Books3.length S_Books3 S_Books3 114 [(0, zR (some 0))] [] μ 0 0 (J_Books_pass_114 μ) := by
  unfold J_Books_pass_114
  refine AW.aload_n (i := 0) (a := 0) (by decide +kernel) rfl (?_ : AW _ _ _ _ 115 _ _ _ _ _ _)
  refine AW.dup (by decide +kernel) rfl (?_ : AW _ _ _ _ 116 _ _ _ _ _ _)
  refine AW.getI (idx := 51) (ci := 0) (k := 6) (r := 0) (by decide +kernel) rfl rfl rfl (?_ : AW _ _ _ _ 119 _ _ _ _ _ _)
  refine AW.iconst (n := 1) (by decide +kernel) (?_ : AW _ _ _ _ 120 _ _ _ _ _ _)
  refine AW.iadd (by decide +kernel) (?_ : AW _ _ _ _ 121 _ _ _ _ _ _)
  refine AW.putiL (idx := 51) (ci := 0) (k := 6) (r := 0) (by decide +kernel) rfl rfl rfl (fun μ13 => (?_ : AW _ _ _ _ 124 _ _ _ _ _ _))
  exact AW.retv (by decide +kernel) rfl (by decide) (by decide)
def F_Books_pass (a1 : Int) (μ : ZMem) : Option ZRes := zRd μ 1 7 0 (fun x1 => L_Books_pass_10 a1 x1 (fun μ8 => zRd μ8 2 32 24 (fun x9 => zWr μ8 2 32 24 (x9 + a1) (fun μ10 => zC (F_Books_isDealwise  μ10) (zkI (fun x12 μ11 => if w32 x12 = 0 then (J_Books_pass_114 μ11) else (zRd μ11 2 32 28 (fun x14 => zWr μ11 2 32 28 (x14 + a1) (fun μ15 => J_Books_pass_114 μ15))))) zX0))) zN 0 μ)
set_option maxRecDepth 100000 in
theorem w_Books_pass (a1 : Int) (μ : ZMem) : AW cf_Books_pass S_Books3.length S_Books3 S_Books3 0 [(0, zR (some 0)), (1, zJ a1)] [] μ 0 0 (F_Books_pass a1 μ) := by
  unfold F_Books_pass
  refine AW.aload_n (i := 0) (a := 0) (by decide +kernel) rfl (?_ : AW _ _ _ _ 1 _ _ _ _ _ _)
  refine AW.getR (idx := 9) (ci := 0) (k := 0) (r := 0) (by decide +kernel) rfl rfl rfl (?_ : AW _ _ _ _ 4 _ _ _ _ _ _)
  refine AW.iconst (n := 0) (by decide +kernel) (?_ : AW _ _ _ _ 5 _ _ _ _ _ _)
  refine AW.iald (r := 1) (by decide +kernel) rfl (fun x1 => (?_ : AW _ _ _ _ 6 _ _ _ _ _ _))
  refine AW.istore_n' (i := 3) (L' := [(3, zI x1), (0, zR (some 0)), (1, zJ a1)]) (by decide +kernel) (by decide) rfl (?_ : AW _ _ _ _ 7 _ _ _ _ _ _)
  refine AW.iconst (n := 0) (by decide +kernel) (?_ : AW _ _ _ _ 8 _ _ _ _ _ _)
  refine AW.istore' (i := 4) (L' := [(4, zI 0), (3, zI x1), (0, zR (some 0)), (1, zJ a1)]) (by decide +kernel) (by decide) rfl (?_ : AW _ _ _ _ 10 _ _ _ _ _ _)
  refine AW.sub (L' := [(0, zR (some 0)), (1, zJ a1), (3, zI x1), (4, zI 0)]) [2, 3, 1, 0] rfl ?_
  refine l_Books_pass_10 (fun μ8 => ?_) zN _ _
  refine AW.aload_n (i := 0) (a := 0) (by decide +kernel) rfl (?_ : AW _ _ _ _ 86 _ _ _ _ _ _)
  refine AW.getR (idx := 15) (ci := 0) (k := 1) (r := 0) (by decide +kernel) rfl rfl rfl (?_ : AW _ _ _ _ 89 _ _ _ _ _ _)
  refine AW.bipush (n := 24) (by decide +kernel) (by decide +kernel) (?_ : AW _ _ _ _ 91 _ _ _ _ _ _)
  refine AW.dup2 (by decide +kernel) rfl rfl (?_ : AW _ _ _ _ 92 _ _ _ _ _ _)
  refine AW.lald (r := 2) (by decide +kernel) rfl (fun x9 => (?_ : AW _ _ _ _ 93 _ _ _ _ _ _))
  refine AW.lload_n (i := 1) (a := a1) (by decide +kernel) rfl (?_ : AW _ _ _ _ 94 _ _ _ _ _ _)
  refine AW.ladd (by decide +kernel) (?_ : AW _ _ _ _ 95 _ _ _ _ _ _)
  refine AW.lastL (r := 2) (by decide +kernel) rfl (fun μ10 => (?_ : AW _ _ _ _ 96 _ _ _ _ _ _))
  refine AW.aload_n (i := 0) (a := 0) (by decide +kernel) rfl (?_ : AW _ _ _ _ 97 _ _ _ _ _ _)
  refine AW.callVw (g := cf_Books_isDealwise) (av := []) (b0 := 0) (ci := 0) (idx := 62) (n := 0) (st := []) (by decide +kernel) (fun l hl r hr => c_Books_isDealwise l hl  _ r hr) S_Books3_wf rfl cal_Books_isDealwise rfl (zw4 zm_X0_62 zi_yX0_isDealwise zs_yX0_isDealwise zn_X0) rfl rfl ⟨by decide, by decide, by decide, by decide⟩ (Nat.le_of_ble_eq_true rfl) (Or.inl rfl) (fun v μ11 => AW.kI (fun x12 => (?_ : AW _ _ _ _ 100 _ _ _ _ _ _)) v)
  refine AW.if_eq (off := 14) (tgt := 114) (by decide +kernel) (by decide) (fun _ => ?_) (fun _ => ?_)
  · refine AW.sub (L' := [(0, zR (some 0))]) [0] rfl ?_
    exact j_Books_pass_114 μ11
  · refine AW.aload_n (i := 0) (a := 0) (by decide +kernel) rfl (?_ : AW _ _ _ _ 104 _ _ _ _ _ _)
    refine AW.getR (idx := 15) (ci := 0) (k := 1) (r := 0) (by decide +kernel) rfl rfl rfl (?_ : AW _ _ _ _ 107 _ _ _ _ _ _)
    refine AW.bipush (n := 28) (by decide +kernel) (by decide +kernel) (?_ : AW _ _ _ _ 109 _ _ _ _ _ _)
    refine AW.dup2 (by decide +kernel) rfl rfl (?_ : AW _ _ _ _ 110 _ _ _ _ _ _)
    refine AW.lald (r := 2) (by decide +kernel) rfl (fun x14 => (?_ : AW _ _ _ _ 111 _ _ _ _ _ _))
    refine AW.lload_n (i := 1) (a := a1) (by decide +kernel) rfl (?_ : AW _ _ _ _ 112 _ _ _ _ _ _)
    refine AW.ladd (by decide +kernel) (?_ : AW _ _ _ _ 113 _ _ _ _ _ _)
    refine AW.lastL (r := 2) (by decide +kernel) rfl (fun μ15 => (?_ : AW _ _ _ _ 114 _ _ _ _ _ _))
    refine AW.sub (L' := [(0, zR (some 0))]) [0] rfl ?_
    exact j_Books_pass_114 μ15
theorem c_Books_pass (l : Launch) (hl : l.stackTraces = false) (a1 : Int) (μ : ZMem) (r : ZRes) (h : F_Books_pass a1 μ = some r) : ZC l cf_Books_pass S_Books3 S_Books3 [zR (some 0), zJ a1] μ r := ZC.of hl (by decide +kernel) rfl rfl zft_X0_ok (Nat.le_of_ble_eq_true rfl) h (w_Books_pass a1 μ)
/-! WeirLedger$Books.catchUp(JJJ)J -/
def cf_Books_catchUp : ZCf := (yX0_catchUp, cX0_catchUp, 16, some .long, [], 2, 0, 0, zft_X0, none)
theorem cal_Books_catchUp : zCallee cf_Books_catchUp 3 := ⟨rfl, zc_yX0_catchUp, by decide, by decide, by decide +kernel⟩
def L_Books_catchUp_66 (c5 : Int) (c7 : Int) (c11 : Int) (μ : ZMem) (K : Option ZRes) : Nat → Int → Int → Option ZRes
  | 0, _, _ => none
  | n + 1, v13, v15 => if w32 200 ≤ w32 v15 then (K) else (if w64 c5 ≤ w64 v13 then (K) else (zRd μ 1 7 1 (fun x7 => if w64 ((((w64 ((w32 x7) * v13)).tdiv (w64 100)) * 100) - (c7 * v13)) < w64 c11 then (zLet ((v13 + 1)) (fun x8 => zLet (v15 + 1) (fun x9 => L_Books_catchUp_66 c5 c7 c11 μ K n x8 x9))) else (some (.inr (some (zJ v13)), μ)))))
set_option maxRecDepth 100000 in
theorem l_Books_catchUp_66 {c5 : Int} {c7 : Int} {c11 : Int} {μ : ZMem} {K : Option ZRes} (hK : AW cf_Books_catchUp S_Books3.length S_Books3 S_Books3 127 [(5, zJ c5)] [] μ 0 0 (K)) : ∀ (n : Nat) (v13 : Int) (v15 : Int), AW cf_Books_catchUp S_Books3.length S_Books3 S_Books3 66 [(0, zR (some 0)), (5, zJ c5), (7, zJ c7), (11, zJ c11), (13, zJ v13), (15, zI v15)] [] μ 0 0 (L_Books_catchUp_66 c5 c7 c11 μ K n v13 v15) := by
  intro n
  induction n with
  | zero => intro v13 v15; exact AW.noth
  | succ n ih =>
    intro v13 v15
    rw [L_Books_catchUp_66]
    refine AW.iload (i := 15) (a := v15) (by decide +kernel) rfl (?_ : AW _ _ _ _ 68 _ _ _ _ _ _)
    refine AW.sipush (n := 200) (by decide +kernel) (by decide +kernel) (?_ : AW _ _ _ _ 71 _ _ _ _ _ _)
    refine AW.icmp_ge (off := 56) (tgt := 127) (by decide +kernel) (by decide) (fun _ => ?_) (fun _ => ?_)
    · refine AW.sub (L' := [(5, zJ c5)]) [1] rfl ?_
      exact hK 
    · refine AW.lload (i := 13) (a := v13) (by decide +kernel) rfl (?_ : AW _ _ _ _ 76 _ _ _ _ _ _)
      refine AW.lload (i := 5) (a := c5) (by decide +kernel) rfl (?_ : AW _ _ _ _ 78 _ _ _ _ _ _)
      refine AW.lcmp_ge (off := 48) (tgt := 127) (by decide +kernel) (by decide +kernel) (by decide) (fun _ => ?_) (fun _ => ?_)
      · refine AW.sub (L' := [(5, zJ c5)]) [1] rfl ?_
        exact hK 
      · refine AW.aload_n (i := 0) (a := 0) (by decide +kernel) rfl (?_ : AW _ _ _ _ 83 _ _ _ _ _ _)
        refine AW.getR (idx := 9) (ci := 0) (k := 0) (r := 0) (by decide +kernel) rfl rfl rfl (?_ : AW _ _ _ _ 86 _ _ _ _ _ _)
        refine AW.iconst (n := 1) (by decide +kernel) (?_ : AW _ _ _ _ 87 _ _ _ _ _ _)
        refine AW.iald (r := 1) (by decide +kernel) rfl (fun x7 => (?_ : AW _ _ _ _ 88 _ _ _ _ _ _))
        refine AW.i2l (by decide +kernel) (?_ : AW _ _ _ _ 89 _ _ _ _ _ _)
        refine AW.lload (i := 13) (a := v13) (by decide +kernel) rfl (?_ : AW _ _ _ _ 91 _ _ _ _ _ _)
        refine AW.lmul (by decide +kernel) (?_ : AW _ _ _ _ 92 _ _ _ _ _ _)
        refine AW.ldc2 (idx := 80) (v := 100) (by decide +kernel) zk_X0_80 (?_ : AW _ _ _ _ 95 _ _ _ _ _ _)
        refine AW.ldiv (by decide +kernel) (by decide +kernel) (?_ : AW _ _ _ _ 96 _ _ _ _ _ _)
        refine AW.ldc2 (idx := 80) (v := 100) (by decide +kernel) zk_X0_80 (?_ : AW _ _ _ _ 99 _ _ _ _ _ _)
        refine AW.lmul (by decide +kernel) (?_ : AW _ _ _ _ 100 _ _ _ _ _ _)
        refine AW.lload (i := 7) (a := c7) (by decide +kernel) rfl (?_ : AW _ _ _ _ 102 _ _ _ _ _ _)
        refine AW.lload (i := 13) (a := v13) (by decide +kernel) rfl (?_ : AW _ _ _ _ 104 _ _ _ _ _ _)
        refine AW.lmul (by decide +kernel) (?_ : AW _ _ _ _ 105 _ _ _ _ _ _)
        refine AW.lsub (by decide +kernel) (?_ : AW _ _ _ _ 106 _ _ _ _ _ _)
        refine AW.lload (i := 11) (a := c11) (by decide +kernel) rfl (?_ : AW _ _ _ _ 108 _ _ _ _ _ _)
        refine AW.lcmp_lt (off := 6) (tgt := 115) (by decide +kernel) (by decide +kernel) (by decide) (fun _ => ?_) (fun _ => ?_)
        · refine AW.lload (i := 13) (a := v13) (by decide +kernel) rfl (?_ : AW _ _ _ _ 117 _ _ _ _ _ _)
          refine AW.lconst1 (by decide +kernel) (?_ : AW _ _ _ _ 118 _ _ _ _ _ _)
          refine AW.ladd (by decide +kernel) (?_ : AW _ _ _ _ 119 _ _ _ _ _ _)
          refine AW.lstoreL (i := 13) (L' := fun x8 => [(13, zJ x8), (0, zR (some 0)), (5, zJ c5), (7, zJ c7), (11, zJ c11), (15, zI v15)]) (by decide +kernel) (by decide) (fun _ => rfl) (fun x8 => (?_ : AW _ _ _ _ 121 _ _ _ _ _ _))
          refine AW.iincL (i := 15) (n := 1) (a := v15) (L' := fun x9 => [(15, zI x9), (13, zJ x8), (0, zR (some 0)), (5, zJ c5), (7, zJ c7), (11, zJ c11)]) (by decide +kernel) rfl (by decide) (fun _ => rfl) (fun x9 => (?_ : AW _ _ _ _ 124 _ _ _ _ _ _))
          refine AW.goto (off := -58) (tgt := 66) (by decide +kernel) (by decide) ?_
          refine AW.sub (L' := [(0, zR (some 0)), (5, zJ c5), (7, zJ c7), (11, zJ c11), (13, zJ x8), (15, zI x9)]) [2, 3, 4, 5, 1, 0] rfl ?_
          exact ih x8 x9
        · refine AW.lload (i := 13) (a := v13) (by decide +kernel) rfl (?_ : AW _ _ _ _ 114 _ _ _ _ _ _)
          exact AW.retl (by decide +kernel) rfl (by decide) (by decide)
def F_Books_catchUp (a1 : Int) (a2 : Int) (a3 : Int) (μ : ZMem) : Option ZRes := zRd μ 1 7 2 (fun x1 => zLet ((w32 x1)) (fun x2 => zRd μ 1 7 1 (fun x3 => zLet (((w32 x3) - x2)) (fun x4 => zLet (((x2 * (a1 + a2)) - (100 * a2))) (fun x5 => if w64 x4 ≤ w64 0 then (some (.inr (some (zJ 0)), μ)) else (if w64 0 < w64 x5 then (if w64 x4 = 0 then none else (zLet (((w64 ((x5 + x4) - 1)).tdiv (w64 x4))) (fun x6 => L_Books_catchUp_66 a3 x2 x5 μ (some (.inr (some (zJ a3)), μ)) zN x6 0))) else (some (.inr (some (zJ 0)), μ))))))))
set_option maxRecDepth 100000 in
theorem w_Books_catchUp (a1 : Int) (a2 : Int) (a3 : Int) (μ : ZMem) : AW cf_Books_catchUp S_Books3.length S_Books3 S_Books3 0 [(0, zR (some 0)), (1, zJ a1), (3, zJ a2), (5, zJ a3)] [] μ 0 0 (F_Books_catchUp a1 a2 a3 μ) := by
  unfold F_Books_catchUp
  refine AW.aload_n (i := 0) (a := 0) (by decide +kernel) rfl (?_ : AW _ _ _ _ 1 _ _ _ _ _ _)
  refine AW.getR (idx := 9) (ci := 0) (k := 0) (r := 0) (by decide +kernel) rfl rfl rfl (?_ : AW _ _ _ _ 4 _ _ _ _ _ _)
  refine AW.iconst (n := 2) (by decide +kernel) (?_ : AW _ _ _ _ 5 _ _ _ _ _ _)
  refine AW.iald (r := 1) (by decide +kernel) rfl (fun x1 => (?_ : AW _ _ _ _ 6 _ _ _ _ _ _))
  refine AW.i2l (by decide +kernel) (?_ : AW _ _ _ _ 7 _ _ _ _ _ _)
  refine AW.lstoreL (i := 7) (L' := fun x2 => [(7, zJ x2), (0, zR (some 0)), (1, zJ a1), (3, zJ a2), (5, zJ a3)]) (by decide +kernel) (by decide) (fun _ => rfl) (fun x2 => (?_ : AW _ _ _ _ 9 _ _ _ _ _ _))
  refine AW.aload_n (i := 0) (a := 0) (by decide +kernel) rfl (?_ : AW _ _ _ _ 10 _ _ _ _ _ _)
  refine AW.getR (idx := 9) (ci := 0) (k := 0) (r := 0) (by decide +kernel) rfl rfl rfl (?_ : AW _ _ _ _ 13 _ _ _ _ _ _)
  refine AW.iconst (n := 1) (by decide +kernel) (?_ : AW _ _ _ _ 14 _ _ _ _ _ _)
  refine AW.iald (r := 1) (by decide +kernel) rfl (fun x3 => (?_ : AW _ _ _ _ 15 _ _ _ _ _ _))
  refine AW.i2l (by decide +kernel) (?_ : AW _ _ _ _ 16 _ _ _ _ _ _)
  refine AW.lload (i := 7) (a := x2) (by decide +kernel) rfl (?_ : AW _ _ _ _ 18 _ _ _ _ _ _)
  refine AW.lsub (by decide +kernel) (?_ : AW _ _ _ _ 19 _ _ _ _ _ _)
  refine AW.lstoreL (i := 9) (L' := fun x4 => [(9, zJ x4), (7, zJ x2), (0, zR (some 0)), (1, zJ a1), (3, zJ a2), (5, zJ a3)]) (by decide +kernel) (by decide) (fun _ => rfl) (fun x4 => (?_ : AW _ _ _ _ 21 _ _ _ _ _ _))
  refine AW.lload (i := 7) (a := x2) (by decide +kernel) rfl (?_ : AW _ _ _ _ 23 _ _ _ _ _ _)
  refine AW.lload_n (i := 1) (a := a1) (by decide +kernel) rfl (?_ : AW _ _ _ _ 24 _ _ _ _ _ _)
  refine AW.lload_n (i := 3) (a := a2) (by decide +kernel) rfl (?_ : AW _ _ _ _ 25 _ _ _ _ _ _)
  refine AW.ladd (by decide +kernel) (?_ : AW _ _ _ _ 26 _ _ _ _ _ _)
  refine AW.lmul (by decide +kernel) (?_ : AW _ _ _ _ 27 _ _ _ _ _ _)
  refine AW.ldc2 (idx := 80) (v := 100) (by decide +kernel) zk_X0_80 (?_ : AW _ _ _ _ 30 _ _ _ _ _ _)
  refine AW.lload_n (i := 3) (a := a2) (by decide +kernel) rfl (?_ : AW _ _ _ _ 31 _ _ _ _ _ _)
  refine AW.lmul (by decide +kernel) (?_ : AW _ _ _ _ 32 _ _ _ _ _ _)
  refine AW.lsub (by decide +kernel) (?_ : AW _ _ _ _ 33 _ _ _ _ _ _)
  refine AW.lstoreL (i := 11) (L' := fun x5 => [(11, zJ x5), (9, zJ x4), (7, zJ x2), (0, zR (some 0)), (1, zJ a1), (3, zJ a2), (5, zJ a3)]) (by decide +kernel) (by decide) (fun _ => rfl) (fun x5 => (?_ : AW _ _ _ _ 35 _ _ _ _ _ _))
  refine AW.lload (i := 9) (a := x4) (by decide +kernel) rfl (?_ : AW _ _ _ _ 37 _ _ _ _ _ _)
  refine AW.lconst0 (by decide +kernel) (?_ : AW _ _ _ _ 38 _ _ _ _ _ _)
  refine AW.lcmp_le (off := 10) (tgt := 49) (by decide +kernel) (by decide +kernel) (by decide) (fun _ => ?_) (fun _ => ?_)
  · refine AW.lconst0 (by decide +kernel) (?_ : AW _ _ _ _ 50 _ _ _ _ _ _)
    exact AW.retl (by decide +kernel) rfl (by decide) (by decide)
  · refine AW.lload (i := 11) (a := x5) (by decide +kernel) rfl (?_ : AW _ _ _ _ 44 _ _ _ _ _ _)
    refine AW.lconst0 (by decide +kernel) (?_ : AW _ _ _ _ 45 _ _ _ _ _ _)
    refine AW.lcmp_gt (off := 5) (tgt := 51) (by decide +kernel) (by decide +kernel) (by decide) (fun _ => ?_) (fun _ => ?_)
    · refine AW.lload (i := 11) (a := x5) (by decide +kernel) rfl (?_ : AW _ _ _ _ 53 _ _ _ _ _ _)
      refine AW.lload (i := 9) (a := x4) (by decide +kernel) rfl (?_ : AW _ _ _ _ 55 _ _ _ _ _ _)
      refine AW.ladd (by decide +kernel) (?_ : AW _ _ _ _ 56 _ _ _ _ _ _)
      refine AW.lconst1 (by decide +kernel) (?_ : AW _ _ _ _ 57 _ _ _ _ _ _)
      refine AW.lsub (by decide +kernel) (?_ : AW _ _ _ _ 58 _ _ _ _ _ _)
      refine AW.lload (i := 9) (a := x4) (by decide +kernel) rfl (?_ : AW _ _ _ _ 60 _ _ _ _ _ _)
      refine AW.ldiv_if (K := fun _ => _) (by decide +kernel) (?_ : AW _ _ _ _ 61 _ _ _ _ _ _)
      refine AW.lstoreL (i := 13) (L' := fun x6 => [(13, zJ x6), (11, zJ x5), (9, zJ x4), (7, zJ x2), (0, zR (some 0)), (1, zJ a1), (3, zJ a2), (5, zJ a3)]) (by decide +kernel) (by decide) (fun _ => rfl) (fun x6 => (?_ : AW _ _ _ _ 63 _ _ _ _ _ _))
      refine AW.iconst (n := 0) (by decide +kernel) (?_ : AW _ _ _ _ 64 _ _ _ _ _ _)
      refine AW.istore' (i := 15) (L' := [(15, zI 0), (13, zJ x6), (11, zJ x5), (9, zJ x4), (7, zJ x2), (0, zR (some 0)), (1, zJ a1), (3, zJ a2), (5, zJ a3)]) (by decide +kernel) (by decide) rfl (?_ : AW _ _ _ _ 66 _ _ _ _ _ _)
      refine AW.sub (L' := [(0, zR (some 0)), (5, zJ a3), (7, zJ x2), (11, zJ x5), (13, zJ x6), (15, zI 0)]) [5, 8, 4, 2, 1, 0] rfl ?_
      refine l_Books_catchUp_66 ?_ zN _ _
      refine AW.lload (i := 5) (a := a3) (by decide +kernel) rfl (?_ : AW _ _ _ _ 129 _ _ _ _ _ _)
      exact AW.retl (by decide +kernel) rfl (by decide) (by decide)
    · refine AW.lconst0 (by decide +kernel) (?_ : AW _ _ _ _ 50 _ _ _ _ _ _)
      exact AW.retl (by decide +kernel) rfl (by decide) (by decide)
theorem c_Books_catchUp (l : Launch) (hl : l.stackTraces = false) (a1 : Int) (a2 : Int) (a3 : Int) (μ : ZMem) (r : ZRes) (h : F_Books_catchUp a1 a2 a3 μ = some r) : ZC l cf_Books_catchUp S_Books3 S_Books3 [zR (some 0), zJ a1, zJ a2, zJ a3] μ r := ZC.of hl (by decide +kernel) rfl rfl zft_X0_ok (Nat.le_of_ble_eq_true rfl) h (w_Books_catchUp a1 a2 a3 μ)
/-! WeirLedger$Books.measure(IZJ)V -/
def cf_Books_measure : ZCf := (yX0_measure, cX0_measure, 12, none, [], 3, 0, 0, zft_X0, none)
theorem cal_Books_measure : zCallee cf_Books_measure 3 := ⟨rfl, zc_yX0_measure, by decide, by decide, by decide +kernel⟩
def J_Books_measure_58 (a3 : Int) (u5 : Int) (u6 : Int) (u8 : Int) (u10 : Int) (μ : ZMem) : Option ZRes := zWr μ 5 6 0 (zminJ u6 u8) (fun μ4 => zRd μ4 5 6 0 (fun x5 => zLet ((u6 - x5)) (fun x6 => zWr μ4 5 6 1 (zminJ x6 u10) (fun μ7 => zRd μ7 5 6 1 (fun x8 => zLet ((x6 - x8)) (fun x9 => zRd μ7 2 32 (u5 + 2) (fun x10 => zRd μ7 5 6 1 (fun x11 => zRd μ7 2 32 (u5 + 3) (fun x12 => zC (F_Books_catchUp (x10 + x11) x12 x9 μ7) (zkJ (fun x14 μ13 => zWr μ13 5 6 2 x14 (fun μ15 => zRd μ15 5 6 2 (fun x16 => zLet ((x9 - x16)) (fun x17 => zWr μ15 5 6 3 x17 (fun μ18 => zRd μ18 1 7 1 (fun x19 => zRd μ18 5 6 2 (fun x20 => zRd μ18 1 7 2 (fun x21 => zWr μ18 5 6 4 (((w64 ((w32 x19) * x20)).tdiv (w64 100)) + ((w64 ((w32 x21) * x17)).tdiv (w64 100))) (fun μ22 => zRd μ22 5 6 4 (fun x23 => zWr μ22 5 6 5 (a3 - x23) (fun μ24 => some (.inr none, μ24))))))))))))) zX0)))))))))
set_option maxRecDepth 100000 in
theorem j_Books_measure_58 (a3 : Int) (u5 : Int) (u6 : Int) (u8 : Int) (u10 : Int) (μ : ZMem) : AW cf_Books_measure S_Books3.length S_Books3 S_Books3 58 [(0, zR (some 0)), (3, zJ a3), (5, zI u5), (6, zJ u6), (8, zJ u8), (10, zJ u10)] [] μ 0 0 (J_Books_measure_58 a3 u5 u6 u8 u10 μ) := by
  unfold J_Books_measure_58
  refine AW.aload_n (i := 0) (a := 0) (by decide +kernel) rfl (?_ : AW _ _ _ _ 59 _ _ _ _ _ _)
  refine AW.getR (idx := 25) (ci := 0) (k := 4) (r := 0) (by decide +kernel) rfl rfl rfl (?_ : AW _ _ _ _ 62 _ _ _ _ _ _)
  refine AW.iconst (n := 0) (by decide +kernel) (?_ : AW _ _ _ _ 63 _ _ _ _ _ _)
  refine AW.lload (i := 6) (a := u6) (by decide +kernel) rfl (?_ : AW _ _ _ _ 65 _ _ _ _ _ _)
  refine AW.lload (i := 8) (a := u8) (by decide +kernel) rfl (?_ : AW _ _ _ _ 67 _ _ _ _ _ _)
  refine AW.minJ (idx := 70) (by decide +kernel) zm_X0_70 rfl (?_ : AW _ _ _ _ 70 _ _ _ _ _ _)
  refine AW.lastL (r := 5) (by decide +kernel) rfl (fun μ4 => (?_ : AW _ _ _ _ 71 _ _ _ _ _ _))
  refine AW.lload (i := 6) (a := u6) (by decide +kernel) rfl (?_ : AW _ _ _ _ 73 _ _ _ _ _ _)
  refine AW.aload_n (i := 0) (a := 0) (by decide +kernel) rfl (?_ : AW _ _ _ _ 74 _ _ _ _ _ _)
  refine AW.getR (idx := 25) (ci := 0) (k := 4) (r := 0) (by decide +kernel) rfl rfl rfl (?_ : AW _ _ _ _ 77 _ _ _ _ _ _)
  refine AW.iconst (n := 0) (by decide +kernel) (?_ : AW _ _ _ _ 78 _ _ _ _ _ _)
  refine AW.lald (r := 5) (by decide +kernel) rfl (fun x5 => (?_ : AW _ _ _ _ 79 _ _ _ _ _ _))
  refine AW.lsub (by decide +kernel) (?_ : AW _ _ _ _ 80 _ _ _ _ _ _)
  refine AW.lstoreL (i := 6) (L' := fun x6 => [(6, zJ x6), (0, zR (some 0)), (3, zJ a3), (5, zI u5), (8, zJ u8), (10, zJ u10)]) (by decide +kernel) (by decide) (fun _ => rfl) (fun x6 => (?_ : AW _ _ _ _ 82 _ _ _ _ _ _))
  refine AW.aload_n (i := 0) (a := 0) (by decide +kernel) rfl (?_ : AW _ _ _ _ 83 _ _ _ _ _ _)
  refine AW.getR (idx := 25) (ci := 0) (k := 4) (r := 0) (by decide +kernel) rfl rfl rfl (?_ : AW _ _ _ _ 86 _ _ _ _ _ _)
  refine AW.iconst (n := 1) (by decide +kernel) (?_ : AW _ _ _ _ 87 _ _ _ _ _ _)
  refine AW.lload (i := 6) (a := x6) (by decide +kernel) rfl (?_ : AW _ _ _ _ 89 _ _ _ _ _ _)
  refine AW.lload (i := 10) (a := u10) (by decide +kernel) rfl (?_ : AW _ _ _ _ 91 _ _ _ _ _ _)
  refine AW.minJ (idx := 70) (by decide +kernel) zm_X0_70 rfl (?_ : AW _ _ _ _ 94 _ _ _ _ _ _)
  refine AW.lastL (r := 5) (by decide +kernel) rfl (fun μ7 => (?_ : AW _ _ _ _ 95 _ _ _ _ _ _))
  refine AW.lload (i := 6) (a := x6) (by decide +kernel) rfl (?_ : AW _ _ _ _ 97 _ _ _ _ _ _)
  refine AW.aload_n (i := 0) (a := 0) (by decide +kernel) rfl (?_ : AW _ _ _ _ 98 _ _ _ _ _ _)
  refine AW.getR (idx := 25) (ci := 0) (k := 4) (r := 0) (by decide +kernel) rfl rfl rfl (?_ : AW _ _ _ _ 101 _ _ _ _ _ _)
  refine AW.iconst (n := 1) (by decide +kernel) (?_ : AW _ _ _ _ 102 _ _ _ _ _ _)
  refine AW.lald (r := 5) (by decide +kernel) rfl (fun x8 => (?_ : AW _ _ _ _ 103 _ _ _ _ _ _))
  refine AW.lsub (by decide +kernel) (?_ : AW _ _ _ _ 104 _ _ _ _ _ _)
  refine AW.lstoreL (i := 6) (L' := fun x9 => [(6, zJ x9), (0, zR (some 0)), (3, zJ a3), (5, zI u5), (8, zJ u8), (10, zJ u10)]) (by decide +kernel) (by decide) (fun _ => rfl) (fun x9 => (?_ : AW _ _ _ _ 106 _ _ _ _ _ _))
  refine AW.aload_n (i := 0) (a := 0) (by decide +kernel) rfl (?_ : AW _ _ _ _ 107 _ _ _ _ _ _)
  refine AW.getR (idx := 25) (ci := 0) (k := 4) (r := 0) (by decide +kernel) rfl rfl rfl (?_ : AW _ _ _ _ 110 _ _ _ _ _ _)
  refine AW.iconst (n := 2) (by decide +kernel) (?_ : AW _ _ _ _ 111 _ _ _ _ _ _)
  refine AW.aload_n (i := 0) (a := 0) (by decide +kernel) rfl (?_ : AW _ _ _ _ 112 _ _ _ _ _ _)
  refine AW.aload_n (i := 0) (a := 0) (by decide +kernel) rfl (?_ : AW _ _ _ _ 113 _ _ _ _ _ _)
  refine AW.getR (idx := 15) (ci := 0) (k := 1) (r := 0) (by decide +kernel) rfl rfl rfl (?_ : AW _ _ _ _ 116 _ _ _ _ _ _)
  refine AW.iload (i := 5) (a := u5) (by decide +kernel) rfl (?_ : AW _ _ _ _ 118 _ _ _ _ _ _)
  refine AW.iconst (n := 2) (by decide +kernel) (?_ : AW _ _ _ _ 119 _ _ _ _ _ _)
  refine AW.iadd (by decide +kernel) (?_ : AW _ _ _ _ 120 _ _ _ _ _ _)
  refine AW.lald (r := 2) (by decide +kernel) rfl (fun x10 => (?_ : AW _ _ _ _ 121 _ _ _ _ _ _))
  refine AW.aload_n (i := 0) (a := 0) (by decide +kernel) rfl (?_ : AW _ _ _ _ 122 _ _ _ _ _ _)
  refine AW.getR (idx := 25) (ci := 0) (k := 4) (r := 0) (by decide +kernel) rfl rfl rfl (?_ : AW _ _ _ _ 125 _ _ _ _ _ _)
  refine AW.iconst (n := 1) (by decide +kernel) (?_ : AW _ _ _ _ 126 _ _ _ _ _ _)
  refine AW.lald (r := 5) (by decide +kernel) rfl (fun x11 => (?_ : AW _ _ _ _ 127 _ _ _ _ _ _))
  refine AW.ladd (by decide +kernel) (?_ : AW _ _ _ _ 128 _ _ _ _ _ _)
  refine AW.aload_n (i := 0) (a := 0) (by decide +kernel) rfl (?_ : AW _ _ _ _ 129 _ _ _ _ _ _)
  refine AW.getR (idx := 15) (ci := 0) (k := 1) (r := 0) (by decide +kernel) rfl rfl rfl (?_ : AW _ _ _ _ 132 _ _ _ _ _ _)
  refine AW.iload (i := 5) (a := u5) (by decide +kernel) rfl (?_ : AW _ _ _ _ 134 _ _ _ _ _ _)
  refine AW.iconst (n := 3) (by decide +kernel) (?_ : AW _ _ _ _ 135 _ _ _ _ _ _)
  refine AW.iadd (by decide +kernel) (?_ : AW _ _ _ _ 136 _ _ _ _ _ _)
  refine AW.lald (r := 2) (by decide +kernel) rfl (fun x12 => (?_ : AW _ _ _ _ 137 _ _ _ _ _ _))
  refine AW.lload (i := 6) (a := x9) (by decide +kernel) rfl (?_ : AW _ _ _ _ 139 _ _ _ _ _ _)
  refine AW.callVw (g := cf_Books_catchUp) (av := [zJ (x10 + x11), zJ x12, zJ x9]) (b0 := 0) (ci := 0) (idx := 76) (n := 3) (st := [zI 2, zR (some 5)]) (by decide +kernel) (fun l hl r hr => c_Books_catchUp l hl (x10 + x11) x12 x9 _ r hr) S_Books3_wf rfl cal_Books_catchUp rfl (zw4 zm_X0_76 zi_yX0_catchUp zs_yX0_catchUp zn_X0) rfl rfl ⟨by decide, by decide, by decide, by decide⟩ (Nat.le_of_ble_eq_true rfl) (Or.inl rfl) (fun v μ13 => AW.kJ (fun x14 => (?_ : AW _ _ _ _ 142 _ _ _ _ _ _)) v)
  refine AW.lastL (r := 5) (by decide +kernel) rfl (fun μ15 => (?_ : AW _ _ _ _ 143 _ _ _ _ _ _))
  refine AW.lload (i := 6) (a := x9) (by decide +kernel) rfl (?_ : AW _ _ _ _ 145 _ _ _ _ _ _)
  refine AW.aload_n (i := 0) (a := 0) (by decide +kernel) rfl (?_ : AW _ _ _ _ 146 _ _ _ _ _ _)
  refine AW.getR (idx := 25) (ci := 0) (k := 4) (r := 0) (by decide +kernel) rfl rfl rfl (?_ : AW _ _ _ _ 149 _ _ _ _ _ _)
  refine AW.iconst (n := 2) (by decide +kernel) (?_ : AW _ _ _ _ 150 _ _ _ _ _ _)
  refine AW.lald (r := 5) (by decide +kernel) rfl (fun x16 => (?_ : AW _ _ _ _ 151 _ _ _ _ _ _))
  refine AW.lsub (by decide +kernel) (?_ : AW _ _ _ _ 152 _ _ _ _ _ _)
  refine AW.lstoreL (i := 6) (L' := fun x17 => [(6, zJ x17), (0, zR (some 0)), (3, zJ a3), (5, zI u5), (8, zJ u8), (10, zJ u10)]) (by decide +kernel) (by decide) (fun _ => rfl) (fun x17 => (?_ : AW _ _ _ _ 154 _ _ _ _ _ _))
  refine AW.aload_n (i := 0) (a := 0) (by decide +kernel) rfl (?_ : AW _ _ _ _ 155 _ _ _ _ _ _)
  refine AW.getR (idx := 25) (ci := 0) (k := 4) (r := 0) (by decide +kernel) rfl rfl rfl (?_ : AW _ _ _ _ 158 _ _ _ _ _ _)
  refine AW.iconst (n := 3) (by decide +kernel) (?_ : AW _ _ _ _ 159 _ _ _ _ _ _)
  refine AW.lload (i := 6) (a := x17) (by decide +kernel) rfl (?_ : AW _ _ _ _ 161 _ _ _ _ _ _)
  refine AW.lastL (r := 5) (by decide +kernel) rfl (fun μ18 => (?_ : AW _ _ _ _ 162 _ _ _ _ _ _))
  refine AW.aload_n (i := 0) (a := 0) (by decide +kernel) rfl (?_ : AW _ _ _ _ 163 _ _ _ _ _ _)
  refine AW.getR (idx := 25) (ci := 0) (k := 4) (r := 0) (by decide +kernel) rfl rfl rfl (?_ : AW _ _ _ _ 166 _ _ _ _ _ _)
  refine AW.iconst (n := 4) (by decide +kernel) (?_ : AW _ _ _ _ 167 _ _ _ _ _ _)
  refine AW.aload_n (i := 0) (a := 0) (by decide +kernel) rfl (?_ : AW _ _ _ _ 168 _ _ _ _ _ _)
  refine AW.getR (idx := 9) (ci := 0) (k := 0) (r := 0) (by decide +kernel) rfl rfl rfl (?_ : AW _ _ _ _ 171 _ _ _ _ _ _)
  refine AW.iconst (n := 1) (by decide +kernel) (?_ : AW _ _ _ _ 172 _ _ _ _ _ _)
  refine AW.iald (r := 1) (by decide +kernel) rfl (fun x19 => (?_ : AW _ _ _ _ 173 _ _ _ _ _ _))
  refine AW.i2l (by decide +kernel) (?_ : AW _ _ _ _ 174 _ _ _ _ _ _)
  refine AW.aload_n (i := 0) (a := 0) (by decide +kernel) rfl (?_ : AW _ _ _ _ 175 _ _ _ _ _ _)
  refine AW.getR (idx := 25) (ci := 0) (k := 4) (r := 0) (by decide +kernel) rfl rfl rfl (?_ : AW _ _ _ _ 178 _ _ _ _ _ _)
  refine AW.iconst (n := 2) (by decide +kernel) (?_ : AW _ _ _ _ 179 _ _ _ _ _ _)
  refine AW.lald (r := 5) (by decide +kernel) rfl (fun x20 => (?_ : AW _ _ _ _ 180 _ _ _ _ _ _))
  refine AW.lmul (by decide +kernel) (?_ : AW _ _ _ _ 181 _ _ _ _ _ _)
  refine AW.ldc2 (idx := 80) (v := 100) (by decide +kernel) zk_X0_80 (?_ : AW _ _ _ _ 184 _ _ _ _ _ _)
  refine AW.ldiv (by decide +kernel) (by decide +kernel) (?_ : AW _ _ _ _ 185 _ _ _ _ _ _)
  refine AW.aload_n (i := 0) (a := 0) (by decide +kernel) rfl (?_ : AW _ _ _ _ 186 _ _ _ _ _ _)
  refine AW.getR (idx := 9) (ci := 0) (k := 0) (r := 0) (by decide +kernel) rfl rfl rfl (?_ : AW _ _ _ _ 189 _ _ _ _ _ _)
  refine AW.iconst (n := 2) (by decide +kernel) (?_ : AW _ _ _ _ 190 _ _ _ _ _ _)
  refine AW.iald (r := 1) (by decide +kernel) rfl (fun x21 => (?_ : AW _ _ _ _ 191 _ _ _ _ _ _))
  refine AW.i2l (by decide +kernel) (?_ : AW _ _ _ _ 192 _ _ _ _ _ _)
  refine AW.lload (i := 6) (a := x17) (by decide +kernel) rfl (?_ : AW _ _ _ _ 194 _ _ _ _ _ _)
  refine AW.lmul (by decide +kernel) (?_ : AW _ _ _ _ 195 _ _ _ _ _ _)
  refine AW.ldc2 (idx := 80) (v := 100) (by decide +kernel) zk_X0_80 (?_ : AW _ _ _ _ 198 _ _ _ _ _ _)
  refine AW.ldiv (by decide +kernel) (by decide +kernel) (?_ : AW _ _ _ _ 199 _ _ _ _ _ _)
  refine AW.ladd (by decide +kernel) (?_ : AW _ _ _ _ 200 _ _ _ _ _ _)
  refine AW.lastL (r := 5) (by decide +kernel) rfl (fun μ22 => (?_ : AW _ _ _ _ 201 _ _ _ _ _ _))
  refine AW.aload_n (i := 0) (a := 0) (by decide +kernel) rfl (?_ : AW _ _ _ _ 202 _ _ _ _ _ _)
  refine AW.getR (idx := 25) (ci := 0) (k := 4) (r := 0) (by decide +kernel) rfl rfl rfl (?_ : AW _ _ _ _ 205 _ _ _ _ _ _)
  refine AW.iconst (n := 5) (by decide +kernel) (?_ : AW _ _ _ _ 206 _ _ _ _ _ _)
  refine AW.lload_n (i := 3) (a := a3) (by decide +kernel) rfl (?_ : AW _ _ _ _ 207 _ _ _ _ _ _)
  refine AW.aload_n (i := 0) (a := 0) (by decide +kernel) rfl (?_ : AW _ _ _ _ 208 _ _ _ _ _ _)
  refine AW.getR (idx := 25) (ci := 0) (k := 4) (r := 0) (by decide +kernel) rfl rfl rfl (?_ : AW _ _ _ _ 211 _ _ _ _ _ _)
  refine AW.iconst (n := 4) (by decide +kernel) (?_ : AW _ _ _ _ 212 _ _ _ _ _ _)
  refine AW.lald (r := 5) (by decide +kernel) rfl (fun x23 => (?_ : AW _ _ _ _ 213 _ _ _ _ _ _))
  refine AW.lsub (by decide +kernel) (?_ : AW _ _ _ _ 214 _ _ _ _ _ _)
  refine AW.lastL (r := 5) (by decide +kernel) rfl (fun μ24 => (?_ : AW _ _ _ _ 215 _ _ _ _ _ _))
  exact AW.retv (by decide +kernel) rfl (by decide) (by decide)
def F_Books_measure (a1 : Int) (a2 : Int) (a3 : Int) (μ : ZMem) : Option ZRes := zLet ((a1 * 4)) (fun x1 => zRd μ 2 32 (x1 + 0) (fun x2 => zRd μ 2 32 (x1 + 1) (fun x3 => if w32 a2 = 0 then (J_Books_measure_58 a3 x1 a3 x2 x3 μ) else (zRd μ 2 32 28 (fun x25 => zLet ((x2 + x25)) (fun x26 => zRd μ 2 32 29 (fun x27 => zLet ((x3 + x27)) (fun x28 => J_Books_measure_58 a3 x1 a3 x26 x28 μ))))))))
set_option maxRecDepth 100000 in
theorem w_Books_measure (a1 : Int) (a2 : Int) (a3 : Int) (μ : ZMem) : AW cf_Books_measure S_Books3.length S_Books3 S_Books3 0 [(0, zR (some 0)), (1, zI a1), (2, zI a2), (3, zJ a3)] [] μ 0 0 (F_Books_measure a1 a2 a3 μ) := by
  unfold F_Books_measure
  refine AW.iload_n (i := 1) (a := a1) (by decide +kernel) rfl (?_ : AW _ _ _ _ 1 _ _ _ _ _ _)
  refine AW.iconst (n := 4) (by decide +kernel) (?_ : AW _ _ _ _ 2 _ _ _ _ _ _)
  refine AW.imul (by decide +kernel) (?_ : AW _ _ _ _ 3 _ _ _ _ _ _)
  refine AW.istoreL (i := 5) (L' := fun x1 => [(5, zI x1), (0, zR (some 0)), (1, zI a1), (2, zI a2), (3, zJ a3)]) (by decide +kernel) (by decide) (fun _ => rfl) (fun x1 => (?_ : AW _ _ _ _ 5 _ _ _ _ _ _))
  refine AW.lload_n (i := 3) (a := a3) (by decide +kernel) rfl (?_ : AW _ _ _ _ 6 _ _ _ _ _ _)
  refine AW.lstore' (i := 6) (L' := [(6, zJ a3), (5, zI x1), (0, zR (some 0)), (1, zI a1), (2, zI a2), (3, zJ a3)]) (by decide +kernel) (by decide) rfl (?_ : AW _ _ _ _ 8 _ _ _ _ _ _)
  refine AW.aload_n (i := 0) (a := 0) (by decide +kernel) rfl (?_ : AW _ _ _ _ 9 _ _ _ _ _ _)
  refine AW.getR (idx := 15) (ci := 0) (k := 1) (r := 0) (by decide +kernel) rfl rfl rfl (?_ : AW _ _ _ _ 12 _ _ _ _ _ _)
  refine AW.iload (i := 5) (a := x1) (by decide +kernel) rfl (?_ : AW _ _ _ _ 14 _ _ _ _ _ _)
  refine AW.iconst (n := 0) (by decide +kernel) (?_ : AW _ _ _ _ 15 _ _ _ _ _ _)
  refine AW.iadd (by decide +kernel) (?_ : AW _ _ _ _ 16 _ _ _ _ _ _)
  refine AW.lald (r := 2) (by decide +kernel) rfl (fun x2 => (?_ : AW _ _ _ _ 17 _ _ _ _ _ _))
  refine AW.lstore' (i := 8) (L' := [(8, zJ x2), (6, zJ a3), (5, zI x1), (0, zR (some 0)), (1, zI a1), (2, zI a2), (3, zJ a3)]) (by decide +kernel) (by decide) rfl (?_ : AW _ _ _ _ 19 _ _ _ _ _ _)
  refine AW.aload_n (i := 0) (a := 0) (by decide +kernel) rfl (?_ : AW _ _ _ _ 20 _ _ _ _ _ _)
  refine AW.getR (idx := 15) (ci := 0) (k := 1) (r := 0) (by decide +kernel) rfl rfl rfl (?_ : AW _ _ _ _ 23 _ _ _ _ _ _)
  refine AW.iload (i := 5) (a := x1) (by decide +kernel) rfl (?_ : AW _ _ _ _ 25 _ _ _ _ _ _)
  refine AW.iconst (n := 1) (by decide +kernel) (?_ : AW _ _ _ _ 26 _ _ _ _ _ _)
  refine AW.iadd (by decide +kernel) (?_ : AW _ _ _ _ 27 _ _ _ _ _ _)
  refine AW.lald (r := 2) (by decide +kernel) rfl (fun x3 => (?_ : AW _ _ _ _ 28 _ _ _ _ _ _))
  refine AW.lstore' (i := 10) (L' := [(10, zJ x3), (8, zJ x2), (6, zJ a3), (5, zI x1), (0, zR (some 0)), (1, zI a1), (2, zI a2), (3, zJ a3)]) (by decide +kernel) (by decide) rfl (?_ : AW _ _ _ _ 30 _ _ _ _ _ _)
  refine AW.iload_n (i := 2) (a := a2) (by decide +kernel) rfl (?_ : AW _ _ _ _ 31 _ _ _ _ _ _)
  refine AW.if_eq (off := 27) (tgt := 58) (by decide +kernel) (by decide) (fun _ => ?_) (fun _ => ?_)
  · refine AW.sub (L' := [(0, zR (some 0)), (3, zJ a3), (5, zI x1), (6, zJ a3), (8, zJ x2), (10, zJ x3)]) [4, 7, 3, 2, 1, 0] rfl ?_
    exact j_Books_measure_58 a3 x1 a3 x2 x3 μ
  · refine AW.lload (i := 8) (a := x2) (by decide +kernel) rfl (?_ : AW _ _ _ _ 36 _ _ _ _ _ _)
    refine AW.aload_n (i := 0) (a := 0) (by decide +kernel) rfl (?_ : AW _ _ _ _ 37 _ _ _ _ _ _)
    refine AW.getR (idx := 15) (ci := 0) (k := 1) (r := 0) (by decide +kernel) rfl rfl rfl (?_ : AW _ _ _ _ 40 _ _ _ _ _ _)
    refine AW.bipush (n := 28) (by decide +kernel) (by decide +kernel) (?_ : AW _ _ _ _ 42 _ _ _ _ _ _)
    refine AW.lald (r := 2) (by decide +kernel) rfl (fun x25 => (?_ : AW _ _ _ _ 43 _ _ _ _ _ _))
    refine AW.ladd (by decide +kernel) (?_ : AW _ _ _ _ 44 _ _ _ _ _ _)
    refine AW.lstoreL (i := 8) (L' := fun x26 => [(8, zJ x26), (10, zJ x3), (6, zJ a3), (5, zI x1), (0, zR (some 0)), (1, zI a1), (2, zI a2), (3, zJ a3)]) (by decide +kernel) (by decide) (fun _ => rfl) (fun x26 => (?_ : AW _ _ _ _ 46 _ _ _ _ _ _))
    refine AW.lload (i := 10) (a := x3) (by decide +kernel) rfl (?_ : AW _ _ _ _ 48 _ _ _ _ _ _)
    refine AW.aload_n (i := 0) (a := 0) (by decide +kernel) rfl (?_ : AW _ _ _ _ 49 _ _ _ _ _ _)
    refine AW.getR (idx := 15) (ci := 0) (k := 1) (r := 0) (by decide +kernel) rfl rfl rfl (?_ : AW _ _ _ _ 52 _ _ _ _ _ _)
    refine AW.bipush (n := 29) (by decide +kernel) (by decide +kernel) (?_ : AW _ _ _ _ 54 _ _ _ _ _ _)
    refine AW.lald (r := 2) (by decide +kernel) rfl (fun x27 => (?_ : AW _ _ _ _ 55 _ _ _ _ _ _))
    refine AW.ladd (by decide +kernel) (?_ : AW _ _ _ _ 56 _ _ _ _ _ _)
    refine AW.lstoreL (i := 10) (L' := fun x28 => [(10, zJ x28), (8, zJ x26), (6, zJ a3), (5, zI x1), (0, zR (some 0)), (1, zI a1), (2, zI a2), (3, zJ a3)]) (by decide +kernel) (by decide) (fun _ => rfl) (fun x28 => (?_ : AW _ _ _ _ 58 _ _ _ _ _ _))
    refine AW.sub (L' := [(0, zR (some 0)), (3, zJ a3), (5, zI x1), (6, zJ a3), (8, zJ x26), (10, zJ x28)]) [4, 7, 3, 2, 1, 0] rfl ?_
    exact j_Books_measure_58 a3 x1 a3 x26 x28 μ
theorem c_Books_measure (l : Launch) (hl : l.stackTraces = false) (a1 : Int) (a2 : Int) (a3 : Int) (μ : ZMem) (r : ZRes) (h : F_Books_measure a1 a2 a3 μ = some r) : ZC l cf_Books_measure S_Books3 S_Books3 [zR (some 0), zI a1, zI a2, zJ a3] μ r := ZC.of hl (by decide +kernel) rfl rfl zft_X0_ok (Nat.le_of_ble_eq_true rfl) h (w_Books_measure a1 a2 a3 μ)
/-! WeirLedger$Books.pour(I)V -/
def cf_Books_pour : ZCf := (yX0_pour, cX0_pour, 7, none, [], 2, 0, 0, zft_X0, none)
theorem cal_Books_pour : zCallee cf_Books_pour 1 := ⟨rfl, zc_yX0_pour, by decide, by decide, by decide +kernel⟩
def F_Books_pour (a1 : Int) (μ : ZMem) : Option ZRes := zLet ((a1 * 4)) (fun x1 => zRd μ 5 6 0 (fun x2 => zRd μ 2 32 (x1 + 0) (fun x3 => zLet ((zminJ x2 x3)) (fun x4 => zRd μ 2 32 (x1 + 0) (fun x5 => zWr μ 2 32 (x1 + 0) (x5 - x4) (fun μ6 => zRd μ6 2 32 28 (fun x7 => zRd μ6 5 6 0 (fun x8 => zWr μ6 2 32 28 (x7 - (x8 - x4)) (fun μ9 => zRd μ9 5 6 1 (fun x10 => zRd μ9 2 32 (x1 + 1) (fun x11 => zLet ((zminJ x10 x11)) (fun x12 => zRd μ9 2 32 (x1 + 1) (fun x13 => zWr μ9 2 32 (x1 + 1) (x13 - x12) (fun μ14 => zRd μ14 2 32 29 (fun x15 => zRd μ14 5 6 1 (fun x16 => zWr μ14 2 32 29 (x15 - (x16 - x12)) (fun μ17 => zRd μ17 2 32 (x1 + 2) (fun x18 => zRd μ17 5 6 5 (fun x19 => zRd μ17 5 6 0 (fun x20 => zWr μ17 2 32 (x1 + 2) (x18 + (x19 - x20)) (fun μ21 => zRd μ21 2 32 (x1 + 3) (fun x22 => zRd μ21 5 6 4 (fun x23 => zWr μ21 2 32 (x1 + 3) (x22 + x23) (fun μ24 => some (.inr none, μ24)))))))))))))))))))))))))
set_option maxRecDepth 100000 in
theorem w_Books_pour (a1 : Int) (μ : ZMem) : AW cf_Books_pour S_Books3.length S_Books3 S_Books3 0 [(0, zR (some 0)), (1, zI a1)] [] μ 0 0 (F_Books_pour a1 μ) := by
  unfold F_Books_pour
  refine AW.iload_n (i := 1) (a := a1) (by decide +kernel) rfl (?_ : AW _ _ _ _ 1 _ _ _ _ _ _)
  refine AW.iconst (n := 4) (by decide +kernel) (?_ : AW _ _ _ _ 2 _ _ _ _ _ _)
  refine AW.imul (by decide +kernel) (?_ : AW _ _ _ _ 3 _ _ _ _ _ _)
  refine AW.istoreL_n (i := 2) (L' := fun x1 => [(2, zI x1), (0, zR (some 0)), (1, zI a1)]) (by decide +kernel) (by decide) (fun _ => rfl) (fun x1 => (?_ : AW _ _ _ _ 4 _ _ _ _ _ _))
  refine AW.aload_n (i := 0) (a := 0) (by decide +kernel) rfl (?_ : AW _ _ _ _ 5 _ _ _ _ _ _)
  refine AW.getR (idx := 25) (ci := 0) (k := 4) (r := 0) (by decide +kernel) rfl rfl rfl (?_ : AW _ _ _ _ 8 _ _ _ _ _ _)
  refine AW.iconst (n := 0) (by decide +kernel) (?_ : AW _ _ _ _ 9 _ _ _ _ _ _)
  refine AW.lald (r := 5) (by decide +kernel) rfl (fun x2 => (?_ : AW _ _ _ _ 10 _ _ _ _ _ _))
  refine AW.aload_n (i := 0) (a := 0) (by decide +kernel) rfl (?_ : AW _ _ _ _ 11 _ _ _ _ _ _)
  refine AW.getR (idx := 15) (ci := 0) (k := 1) (r := 0) (by decide +kernel) rfl rfl rfl (?_ : AW _ _ _ _ 14 _ _ _ _ _ _)
  refine AW.iload_n (i := 2) (a := x1) (by decide +kernel) rfl (?_ : AW _ _ _ _ 15 _ _ _ _ _ _)
  refine AW.iconst (n := 0) (by decide +kernel) (?_ : AW _ _ _ _ 16 _ _ _ _ _ _)
  refine AW.iadd (by decide +kernel) (?_ : AW _ _ _ _ 17 _ _ _ _ _ _)
  refine AW.lald (r := 2) (by decide +kernel) rfl (fun x3 => (?_ : AW _ _ _ _ 18 _ _ _ _ _ _))
  refine AW.minJ (idx := 70) (by decide +kernel) zm_X0_70 rfl (?_ : AW _ _ _ _ 21 _ _ _ _ _ _)
  refine AW.lstoreL_n (i := 3) (L' := fun x4 => [(3, zJ x4), (2, zI x1), (0, zR (some 0)), (1, zI a1)]) (by decide +kernel) (by decide) (fun _ => rfl) (fun x4 => (?_ : AW _ _ _ _ 22 _ _ _ _ _ _))
  refine AW.aload_n (i := 0) (a := 0) (by decide +kernel) rfl (?_ : AW _ _ _ _ 23 _ _ _ _ _ _)
  refine AW.getR (idx := 15) (ci := 0) (k := 1) (r := 0) (by decide +kernel) rfl rfl rfl (?_ : AW _ _ _ _ 26 _ _ _ _ _ _)
  refine AW.iload_n (i := 2) (a := x1) (by decide +kernel) rfl (?_ : AW _ _ _ _ 27 _ _ _ _ _ _)
  refine AW.iconst (n := 0) (by decide +kernel) (?_ : AW _ _ _ _ 28 _ _ _ _ _ _)
  refine AW.iadd (by decide +kernel) (?_ : AW _ _ _ _ 29 _ _ _ _ _ _)
  refine AW.dup2 (by decide +kernel) rfl rfl (?_ : AW _ _ _ _ 30 _ _ _ _ _ _)
  refine AW.lald (r := 2) (by decide +kernel) rfl (fun x5 => (?_ : AW _ _ _ _ 31 _ _ _ _ _ _))
  refine AW.lload_n (i := 3) (a := x4) (by decide +kernel) rfl (?_ : AW _ _ _ _ 32 _ _ _ _ _ _)
  refine AW.lsub (by decide +kernel) (?_ : AW _ _ _ _ 33 _ _ _ _ _ _)
  refine AW.lastL (r := 2) (by decide +kernel) rfl (fun μ6 => (?_ : AW _ _ _ _ 34 _ _ _ _ _ _))
  refine AW.aload_n (i := 0) (a := 0) (by decide +kernel) rfl (?_ : AW _ _ _ _ 35 _ _ _ _ _ _)
  refine AW.getR (idx := 15) (ci := 0) (k := 1) (r := 0) (by decide +kernel) rfl rfl rfl (?_ : AW _ _ _ _ 38 _ _ _ _ _ _)
  refine AW.bipush (n := 28) (by decide +kernel) (by decide +kernel) (?_ : AW _ _ _ _ 40 _ _ _ _ _ _)
  refine AW.dup2 (by decide +kernel) rfl rfl (?_ : AW _ _ _ _ 41 _ _ _ _ _ _)
  refine AW.lald (r := 2) (by decide +kernel) rfl (fun x7 => (?_ : AW _ _ _ _ 42 _ _ _ _ _ _))
  refine AW.aload_n (i := 0) (a := 0) (by decide +kernel) rfl (?_ : AW _ _ _ _ 43 _ _ _ _ _ _)
  refine AW.getR (idx := 25) (ci := 0) (k := 4) (r := 0) (by decide +kernel) rfl rfl rfl (?_ : AW _ _ _ _ 46 _ _ _ _ _ _)
  refine AW.iconst (n := 0) (by decide +kernel) (?_ : AW _ _ _ _ 47 _ _ _ _ _ _)
  refine AW.lald (r := 5) (by decide +kernel) rfl (fun x8 => (?_ : AW _ _ _ _ 48 _ _ _ _ _ _))
  refine AW.lload_n (i := 3) (a := x4) (by decide +kernel) rfl (?_ : AW _ _ _ _ 49 _ _ _ _ _ _)
  refine AW.lsub (by decide +kernel) (?_ : AW _ _ _ _ 50 _ _ _ _ _ _)
  refine AW.lsub (by decide +kernel) (?_ : AW _ _ _ _ 51 _ _ _ _ _ _)
  refine AW.lastL (r := 2) (by decide +kernel) rfl (fun μ9 => (?_ : AW _ _ _ _ 52 _ _ _ _ _ _))
  refine AW.aload_n (i := 0) (a := 0) (by decide +kernel) rfl (?_ : AW _ _ _ _ 53 _ _ _ _ _ _)
  refine AW.getR (idx := 25) (ci := 0) (k := 4) (r := 0) (by decide +kernel) rfl rfl rfl (?_ : AW _ _ _ _ 56 _ _ _ _ _ _)
  refine AW.iconst (n := 1) (by decide +kernel) (?_ : AW _ _ _ _ 57 _ _ _ _ _ _)
  refine AW.lald (r := 5) (by decide +kernel) rfl (fun x10 => (?_ : AW _ _ _ _ 58 _ _ _ _ _ _))
  refine AW.aload_n (i := 0) (a := 0) (by decide +kernel) rfl (?_ : AW _ _ _ _ 59 _ _ _ _ _ _)
  refine AW.getR (idx := 15) (ci := 0) (k := 1) (r := 0) (by decide +kernel) rfl rfl rfl (?_ : AW _ _ _ _ 62 _ _ _ _ _ _)
  refine AW.iload_n (i := 2) (a := x1) (by decide +kernel) rfl (?_ : AW _ _ _ _ 63 _ _ _ _ _ _)
  refine AW.iconst (n := 1) (by decide +kernel) (?_ : AW _ _ _ _ 64 _ _ _ _ _ _)
  refine AW.iadd (by decide +kernel) (?_ : AW _ _ _ _ 65 _ _ _ _ _ _)
  refine AW.lald (r := 2) (by decide +kernel) rfl (fun x11 => (?_ : AW _ _ _ _ 66 _ _ _ _ _ _))
  refine AW.minJ (idx := 70) (by decide +kernel) zm_X0_70 rfl (?_ : AW _ _ _ _ 69 _ _ _ _ _ _)
  refine AW.lstoreL (i := 5) (L' := fun x12 => [(5, zJ x12), (3, zJ x4), (2, zI x1), (0, zR (some 0)), (1, zI a1)]) (by decide +kernel) (by decide) (fun _ => rfl) (fun x12 => (?_ : AW _ _ _ _ 71 _ _ _ _ _ _))
  refine AW.aload_n (i := 0) (a := 0) (by decide +kernel) rfl (?_ : AW _ _ _ _ 72 _ _ _ _ _ _)
  refine AW.getR (idx := 15) (ci := 0) (k := 1) (r := 0) (by decide +kernel) rfl rfl rfl (?_ : AW _ _ _ _ 75 _ _ _ _ _ _)
  refine AW.iload_n (i := 2) (a := x1) (by decide +kernel) rfl (?_ : AW _ _ _ _ 76 _ _ _ _ _ _)
  refine AW.iconst (n := 1) (by decide +kernel) (?_ : AW _ _ _ _ 77 _ _ _ _ _ _)
  refine AW.iadd (by decide +kernel) (?_ : AW _ _ _ _ 78 _ _ _ _ _ _)
  refine AW.dup2 (by decide +kernel) rfl rfl (?_ : AW _ _ _ _ 79 _ _ _ _ _ _)
  refine AW.lald (r := 2) (by decide +kernel) rfl (fun x13 => (?_ : AW _ _ _ _ 80 _ _ _ _ _ _))
  refine AW.lload (i := 5) (a := x12) (by decide +kernel) rfl (?_ : AW _ _ _ _ 82 _ _ _ _ _ _)
  refine AW.lsub (by decide +kernel) (?_ : AW _ _ _ _ 83 _ _ _ _ _ _)
  refine AW.lastL (r := 2) (by decide +kernel) rfl (fun μ14 => (?_ : AW _ _ _ _ 84 _ _ _ _ _ _))
  refine AW.aload_n (i := 0) (a := 0) (by decide +kernel) rfl (?_ : AW _ _ _ _ 85 _ _ _ _ _ _)
  refine AW.getR (idx := 15) (ci := 0) (k := 1) (r := 0) (by decide +kernel) rfl rfl rfl (?_ : AW _ _ _ _ 88 _ _ _ _ _ _)
  refine AW.bipush (n := 29) (by decide +kernel) (by decide +kernel) (?_ : AW _ _ _ _ 90 _ _ _ _ _ _)
  refine AW.dup2 (by decide +kernel) rfl rfl (?_ : AW _ _ _ _ 91 _ _ _ _ _ _)
  refine AW.lald (r := 2) (by decide +kernel) rfl (fun x15 => (?_ : AW _ _ _ _ 92 _ _ _ _ _ _))
  refine AW.aload_n (i := 0) (a := 0) (by decide +kernel) rfl (?_ : AW _ _ _ _ 93 _ _ _ _ _ _)
  refine AW.getR (idx := 25) (ci := 0) (k := 4) (r := 0) (by decide +kernel) rfl rfl rfl (?_ : AW _ _ _ _ 96 _ _ _ _ _ _)
  refine AW.iconst (n := 1) (by decide +kernel) (?_ : AW _ _ _ _ 97 _ _ _ _ _ _)
  refine AW.lald (r := 5) (by decide +kernel) rfl (fun x16 => (?_ : AW _ _ _ _ 98 _ _ _ _ _ _))
  refine AW.lload (i := 5) (a := x12) (by decide +kernel) rfl (?_ : AW _ _ _ _ 100 _ _ _ _ _ _)
  refine AW.lsub (by decide +kernel) (?_ : AW _ _ _ _ 101 _ _ _ _ _ _)
  refine AW.lsub (by decide +kernel) (?_ : AW _ _ _ _ 102 _ _ _ _ _ _)
  refine AW.lastL (r := 2) (by decide +kernel) rfl (fun μ17 => (?_ : AW _ _ _ _ 103 _ _ _ _ _ _))
  refine AW.aload_n (i := 0) (a := 0) (by decide +kernel) rfl (?_ : AW _ _ _ _ 104 _ _ _ _ _ _)
  refine AW.getR (idx := 15) (ci := 0) (k := 1) (r := 0) (by decide +kernel) rfl rfl rfl (?_ : AW _ _ _ _ 107 _ _ _ _ _ _)
  refine AW.iload_n (i := 2) (a := x1) (by decide +kernel) rfl (?_ : AW _ _ _ _ 108 _ _ _ _ _ _)
  refine AW.iconst (n := 2) (by decide +kernel) (?_ : AW _ _ _ _ 109 _ _ _ _ _ _)
  refine AW.iadd (by decide +kernel) (?_ : AW _ _ _ _ 110 _ _ _ _ _ _)
  refine AW.dup2 (by decide +kernel) rfl rfl (?_ : AW _ _ _ _ 111 _ _ _ _ _ _)
  refine AW.lald (r := 2) (by decide +kernel) rfl (fun x18 => (?_ : AW _ _ _ _ 112 _ _ _ _ _ _))
  refine AW.aload_n (i := 0) (a := 0) (by decide +kernel) rfl (?_ : AW _ _ _ _ 113 _ _ _ _ _ _)
  refine AW.getR (idx := 25) (ci := 0) (k := 4) (r := 0) (by decide +kernel) rfl rfl rfl (?_ : AW _ _ _ _ 116 _ _ _ _ _ _)
  refine AW.iconst (n := 5) (by decide +kernel) (?_ : AW _ _ _ _ 117 _ _ _ _ _ _)
  refine AW.lald (r := 5) (by decide +kernel) rfl (fun x19 => (?_ : AW _ _ _ _ 118 _ _ _ _ _ _))
  refine AW.aload_n (i := 0) (a := 0) (by decide +kernel) rfl (?_ : AW _ _ _ _ 119 _ _ _ _ _ _)
  refine AW.getR (idx := 25) (ci := 0) (k := 4) (r := 0) (by decide +kernel) rfl rfl rfl (?_ : AW _ _ _ _ 122 _ _ _ _ _ _)
  refine AW.iconst (n := 0) (by decide +kernel) (?_ : AW _ _ _ _ 123 _ _ _ _ _ _)
  refine AW.lald (r := 5) (by decide +kernel) rfl (fun x20 => (?_ : AW _ _ _ _ 124 _ _ _ _ _ _))
  refine AW.lsub (by decide +kernel) (?_ : AW _ _ _ _ 125 _ _ _ _ _ _)
  refine AW.ladd (by decide +kernel) (?_ : AW _ _ _ _ 126 _ _ _ _ _ _)
  refine AW.lastL (r := 2) (by decide +kernel) rfl (fun μ21 => (?_ : AW _ _ _ _ 127 _ _ _ _ _ _))
  refine AW.aload_n (i := 0) (a := 0) (by decide +kernel) rfl (?_ : AW _ _ _ _ 128 _ _ _ _ _ _)
  refine AW.getR (idx := 15) (ci := 0) (k := 1) (r := 0) (by decide +kernel) rfl rfl rfl (?_ : AW _ _ _ _ 131 _ _ _ _ _ _)
  refine AW.iload_n (i := 2) (a := x1) (by decide +kernel) rfl (?_ : AW _ _ _ _ 132 _ _ _ _ _ _)
  refine AW.iconst (n := 3) (by decide +kernel) (?_ : AW _ _ _ _ 133 _ _ _ _ _ _)
  refine AW.iadd (by decide +kernel) (?_ : AW _ _ _ _ 134 _ _ _ _ _ _)
  refine AW.dup2 (by decide +kernel) rfl rfl (?_ : AW _ _ _ _ 135 _ _ _ _ _ _)
  refine AW.lald (r := 2) (by decide +kernel) rfl (fun x22 => (?_ : AW _ _ _ _ 136 _ _ _ _ _ _))
  refine AW.aload_n (i := 0) (a := 0) (by decide +kernel) rfl (?_ : AW _ _ _ _ 137 _ _ _ _ _ _)
  refine AW.getR (idx := 25) (ci := 0) (k := 4) (r := 0) (by decide +kernel) rfl rfl rfl (?_ : AW _ _ _ _ 140 _ _ _ _ _ _)
  refine AW.iconst (n := 4) (by decide +kernel) (?_ : AW _ _ _ _ 141 _ _ _ _ _ _)
  refine AW.lald (r := 5) (by decide +kernel) rfl (fun x23 => (?_ : AW _ _ _ _ 142 _ _ _ _ _ _))
  refine AW.ladd (by decide +kernel) (?_ : AW _ _ _ _ 143 _ _ _ _ _ _)
  refine AW.lastL (r := 2) (by decide +kernel) rfl (fun μ24 => (?_ : AW _ _ _ _ 144 _ _ _ _ _ _))
  exact AW.retv (by decide +kernel) rfl (by decide) (by decide)
theorem c_Books_pour (l : Launch) (hl : l.stackTraces = false) (a1 : Int) (μ : ZMem) (r : ZRes) (h : F_Books_pour a1 μ = some r) : ZC l cf_Books_pour S_Books3 S_Books3 [zR (some 0), zI a1] μ r := ZC.of hl (by decide +kernel) rfl rfl zft_X0_ok (Nat.le_of_ble_eq_true rfl) h (w_Books_pour a1 μ)
/-! WeirLedger$Books.shiftToBurden(II)V -/
def cf_Books_shiftToBurden : ZCf := (yX0_shiftToBurden, cX0_shiftToBurden, 3, none, [], 2, 0, 0, zft_X0, none)
theorem cal_Books_shiftToBurden : zCallee cf_Books_shiftToBurden 2 := ⟨rfl, zc_yX0_shiftToBurden, by decide, by decide, by decide +kernel⟩
def F_Books_shiftToBurden (a1 : Int) (a2 : Int) (μ : ZMem) : Option ZRes := zRd μ 2 32 a2 (fun x1 => zRd μ 2 32 a1 (fun x2 => zWr μ 2 32 a2 (x1 + x2) (fun μ3 => zWr μ3 2 32 a1 0 (fun μ4 => some (.inr none, μ4)))))
set_option maxRecDepth 100000 in
theorem w_Books_shiftToBurden (a1 : Int) (a2 : Int) (μ : ZMem) : AW cf_Books_shiftToBurden S_Books3.length S_Books3 S_Books3 0 [(0, zR (some 0)), (1, zI a1), (2, zI a2)] [] μ 0 0 (F_Books_shiftToBurden a1 a2 μ) := by
  unfold F_Books_shiftToBurden
  refine AW.aload_n (i := 0) (a := 0) (by decide +kernel) rfl (?_ : AW _ _ _ _ 1 _ _ _ _ _ _)
  refine AW.getR (idx := 15) (ci := 0) (k := 1) (r := 0) (by decide +kernel) rfl rfl rfl (?_ : AW _ _ _ _ 4 _ _ _ _ _ _)
  refine AW.iload_n (i := 2) (a := a2) (by decide +kernel) rfl (?_ : AW _ _ _ _ 5 _ _ _ _ _ _)
  refine AW.dup2 (by decide +kernel) rfl rfl (?_ : AW _ _ _ _ 6 _ _ _ _ _ _)
  refine AW.lald (r := 2) (by decide +kernel) rfl (fun x1 => (?_ : AW _ _ _ _ 7 _ _ _ _ _ _))
  refine AW.aload_n (i := 0) (a := 0) (by decide +kernel) rfl (?_ : AW _ _ _ _ 8 _ _ _ _ _ _)
  refine AW.getR (idx := 15) (ci := 0) (k := 1) (r := 0) (by decide +kernel) rfl rfl rfl (?_ : AW _ _ _ _ 11 _ _ _ _ _ _)
  refine AW.iload_n (i := 1) (a := a1) (by decide +kernel) rfl (?_ : AW _ _ _ _ 12 _ _ _ _ _ _)
  refine AW.lald (r := 2) (by decide +kernel) rfl (fun x2 => (?_ : AW _ _ _ _ 13 _ _ _ _ _ _))
  refine AW.ladd (by decide +kernel) (?_ : AW _ _ _ _ 14 _ _ _ _ _ _)
  refine AW.lastL (r := 2) (by decide +kernel) rfl (fun μ3 => (?_ : AW _ _ _ _ 15 _ _ _ _ _ _))
  refine AW.aload_n (i := 0) (a := 0) (by decide +kernel) rfl (?_ : AW _ _ _ _ 16 _ _ _ _ _ _)
  refine AW.getR (idx := 15) (ci := 0) (k := 1) (r := 0) (by decide +kernel) rfl rfl rfl (?_ : AW _ _ _ _ 19 _ _ _ _ _ _)
  refine AW.iload_n (i := 1) (a := a1) (by decide +kernel) rfl (?_ : AW _ _ _ _ 20 _ _ _ _ _ _)
  refine AW.lconst0 (by decide +kernel) (?_ : AW _ _ _ _ 21 _ _ _ _ _ _)
  refine AW.lastL (r := 2) (by decide +kernel) rfl (fun μ4 => (?_ : AW _ _ _ _ 22 _ _ _ _ _ _))
  exact AW.retv (by decide +kernel) rfl (by decide) (by decide)
theorem c_Books_shiftToBurden (l : Launch) (hl : l.stackTraces = false) (a1 : Int) (a2 : Int) (μ : ZMem) (r : ZRes) (h : F_Books_shiftToBurden a1 a2 μ = some r) : ZC l cf_Books_shiftToBurden S_Books3 S_Books3 [zR (some 0), zI a1, zI a2] μ r := ZC.of hl (by decide +kernel) rfl rfl zft_X0_ok (Nat.le_of_ble_eq_true rfl) h (w_Books_shiftToBurden a1 a2 μ)
/-! WeirLedger$Books.sellDeal(IIZ)V -/
def cf_Books_sellDeal : ZCf := (yX0_sellDeal, cX0_sellDeal, 8, none, [], 4, 0, 0, zft_X0, none)
theorem cal_Books_sellDeal : zCallee cf_Books_sellDeal 3 := ⟨rfl, zc_yX0_sellDeal, by decide, by decide, by decide +kernel⟩
def J_Books_sellDeal_49 (a1 : Int) (a3 : Int) (μ : ZMem) : Option ZRes := zRd μ 5 6 4 (fun x9 => zRd μ 1 7 5 (fun x10 => zLet (((w64 ((w32 x10) * x9)).tdiv (w64 100))) (fun x11 => zRd μ 4 4 0 (fun x12 => zWr μ 4 4 0 (x12 + x9) (fun μ13 => zRd μ13 4 4 2 (fun x14 => zWr μ13 4 4 2 (x14 + x11) (fun μ15 => zRd μ15 4 4 1 (fun x16 => zWr μ15 4 4 1 (x16 + (x9 - x11)) (fun μ17 => if w32 a3 = 0 then (some (.inr none, μ17)) else (zWr μ17 3 24 ((a1 * 4) + 3) 1 (fun μ18 => zC (F_Books_shiftToBurden ((a1 * 4) + 0) 28 μ18) (zkV (fun μ19 => zC (F_Books_shiftToBurden ((a1 * 4) + 1) 29 μ19) (zkV (fun μ21 => some (.inr none, μ21))) zX0)) zX0)))))))))))
set_option maxRecDepth 100000 in
theorem j_Books_sellDeal_49 (a1 : Int) (a3 : Int) (μ : ZMem) : AW cf_Books_sellDeal S_Books3.length S_Books3 S_Books3 49 [(0, zR (some 0)), (1, zI a1), (3, zI a3)] [] μ 0 0 (J_Books_sellDeal_49 a1 a3 μ) := by
  unfold J_Books_sellDeal_49
  refine AW.aload_n (i := 0) (a := 0) (by decide +kernel) rfl (?_ : AW _ _ _ _ 50 _ _ _ _ _ _)
  refine AW.getR (idx := 25) (ci := 0) (k := 4) (r := 0) (by decide +kernel) rfl rfl rfl (?_ : AW _ _ _ _ 53 _ _ _ _ _ _)
  refine AW.iconst (n := 4) (by decide +kernel) (?_ : AW _ _ _ _ 54 _ _ _ _ _ _)
  refine AW.lald (r := 5) (by decide +kernel) rfl (fun x9 => (?_ : AW _ _ _ _ 55 _ _ _ _ _ _))
  refine AW.lstore' (i := 4) (L' := [(4, zJ x9), (0, zR (some 0)), (1, zI a1), (3, zI a3)]) (by decide +kernel) (by decide) rfl (?_ : AW _ _ _ _ 57 _ _ _ _ _ _)
  refine AW.aload_n (i := 0) (a := 0) (by decide +kernel) rfl (?_ : AW _ _ _ _ 58 _ _ _ _ _ _)
  refine AW.getR (idx := 9) (ci := 0) (k := 0) (r := 0) (by decide +kernel) rfl rfl rfl (?_ : AW _ _ _ _ 61 _ _ _ _ _ _)
  refine AW.iconst (n := 5) (by decide +kernel) (?_ : AW _ _ _ _ 62 _ _ _ _ _ _)
  refine AW.iald (r := 1) (by decide +kernel) rfl (fun x10 => (?_ : AW _ _ _ _ 63 _ _ _ _ _ _))
  refine AW.i2l (by decide +kernel) (?_ : AW _ _ _ _ 64 _ _ _ _ _ _)
  refine AW.lload (i := 4) (a := x9) (by decide +kernel) rfl (?_ : AW _ _ _ _ 66 _ _ _ _ _ _)
  refine AW.lmul (by decide +kernel) (?_ : AW _ _ _ _ 67 _ _ _ _ _ _)
  refine AW.ldc2 (idx := 80) (v := 100) (by decide +kernel) zk_X0_80 (?_ : AW _ _ _ _ 70 _ _ _ _ _ _)
  refine AW.ldiv (by decide +kernel) (by decide +kernel) (?_ : AW _ _ _ _ 71 _ _ _ _ _ _)
  refine AW.lstoreL (i := 6) (L' := fun x11 => [(6, zJ x11), (4, zJ x9), (0, zR (some 0)), (1, zI a1), (3, zI a3)]) (by decide +kernel) (by decide) (fun _ => rfl) (fun x11 => (?_ : AW _ _ _ _ 73 _ _ _ _ _ _))
  refine AW.aload_n (i := 0) (a := 0) (by decide +kernel) rfl (?_ : AW _ _ _ _ 74 _ _ _ _ _ _)
  refine AW.getR (idx := 22) (ci := 0) (k := 3) (r := 0) (by decide +kernel) rfl rfl rfl (?_ : AW _ _ _ _ 77 _ _ _ _ _ _)
  refine AW.iconst (n := 0) (by decide +kernel) (?_ : AW _ _ _ _ 78 _ _ _ _ _ _)
  refine AW.dup2 (by decide +kernel) rfl rfl (?_ : AW _ _ _ _ 79 _ _ _ _ _ _)
  refine AW.lald (r := 4) (by decide +kernel) rfl (fun x12 => (?_ : AW _ _ _ _ 80 _ _ _ _ _ _))
  refine AW.lload (i := 4) (a := x9) (by decide +kernel) rfl (?_ : AW _ _ _ _ 82 _ _ _ _ _ _)
  refine AW.ladd (by decide +kernel) (?_ : AW _ _ _ _ 83 _ _ _ _ _ _)
  refine AW.lastL (r := 4) (by decide +kernel) rfl (fun μ13 => (?_ : AW _ _ _ _ 84 _ _ _ _ _ _))
  refine AW.aload_n (i := 0) (a := 0) (by decide +kernel) rfl (?_ : AW _ _ _ _ 85 _ _ _ _ _ _)
  refine AW.getR (idx := 22) (ci := 0) (k := 3) (r := 0) (by decide +kernel) rfl rfl rfl (?_ : AW _ _ _ _ 88 _ _ _ _ _ _)
  refine AW.iconst (n := 2) (by decide +kernel) (?_ : AW _ _ _ _ 89 _ _ _ _ _ _)
  refine AW.dup2 (by decide +kernel) rfl rfl (?_ : AW _ _ _ _ 90 _ _ _ _ _ _)
  refine AW.lald (r := 4) (by decide +kernel) rfl (fun x14 => (?_ : AW _ _ _ _ 91 _ _ _ _ _ _))
  refine AW.lload (i := 6) (a := x11) (by decide +kernel) rfl (?_ : AW _ _ _ _ 93 _ _ _ _ _ _)
  refine AW.ladd (by decide +kernel) (?_ : AW _ _ _ _ 94 _ _ _ _ _ _)
  refine AW.lastL (r := 4) (by decide +kernel) rfl (fun μ15 => (?_ : AW _ _ _ _ 95 _ _ _ _ _ _))
  refine AW.aload_n (i := 0) (a := 0) (by decide +kernel) rfl (?_ : AW _ _ _ _ 96 _ _ _ _ _ _)
  refine AW.getR (idx := 22) (ci := 0) (k := 3) (r := 0) (by decide +kernel) rfl rfl rfl (?_ : AW _ _ _ _ 99 _ _ _ _ _ _)
  refine AW.iconst (n := 1) (by decide +kernel) (?_ : AW _ _ _ _ 100 _ _ _ _ _ _)
  refine AW.dup2 (by decide +kernel) rfl rfl (?_ : AW _ _ _ _ 101 _ _ _ _ _ _)
  refine AW.lald (r := 4) (by decide +kernel) rfl (fun x16 => (?_ : AW _ _ _ _ 102 _ _ _ _ _ _))
  refine AW.lload (i := 4) (a := x9) (by decide +kernel) rfl (?_ : AW _ _ _ _ 104 _ _ _ _ _ _)
  refine AW.lload (i := 6) (a := x11) (by decide +kernel) rfl (?_ : AW _ _ _ _ 106 _ _ _ _ _ _)
  refine AW.lsub (by decide +kernel) (?_ : AW _ _ _ _ 107 _ _ _ _ _ _)
  refine AW.ladd (by decide +kernel) (?_ : AW _ _ _ _ 108 _ _ _ _ _ _)
  refine AW.lastL (r := 4) (by decide +kernel) rfl (fun μ17 => (?_ : AW _ _ _ _ 109 _ _ _ _ _ _))
  refine AW.iload_n (i := 3) (a := a3) (by decide +kernel) rfl (?_ : AW _ _ _ _ 110 _ _ _ _ _ _)
  refine AW.if_eq (off := 36) (tgt := 146) (by decide +kernel) (by decide) (fun _ => ?_) (fun _ => ?_)
  · exact AW.retv (by decide +kernel) rfl (by decide) (by decide)
  · refine AW.aload_n (i := 0) (a := 0) (by decide +kernel) rfl (?_ : AW _ _ _ _ 114 _ _ _ _ _ _)
    refine AW.getR (idx := 19) (ci := 0) (k := 2) (r := 0) (by decide +kernel) rfl rfl rfl (?_ : AW _ _ _ _ 117 _ _ _ _ _ _)
    refine AW.iload_n (i := 1) (a := a1) (by decide +kernel) rfl (?_ : AW _ _ _ _ 118 _ _ _ _ _ _)
    refine AW.iconst (n := 4) (by decide +kernel) (?_ : AW _ _ _ _ 119 _ _ _ _ _ _)
    refine AW.imul (by decide +kernel) (?_ : AW _ _ _ _ 120 _ _ _ _ _ _)
    refine AW.iconst (n := 3) (by decide +kernel) (?_ : AW _ _ _ _ 121 _ _ _ _ _ _)
    refine AW.iadd (by decide +kernel) (?_ : AW _ _ _ _ 122 _ _ _ _ _ _)
    refine AW.iconst (n := 1) (by decide +kernel) (?_ : AW _ _ _ _ 123 _ _ _ _ _ _)
    refine AW.iastL (r := 3) (by decide +kernel) rfl (fun μ18 => (?_ : AW _ _ _ _ 124 _ _ _ _ _ _))
    refine AW.aload_n (i := 0) (a := 0) (by decide +kernel) rfl (?_ : AW _ _ _ _ 125 _ _ _ _ _ _)
    refine AW.iload_n (i := 1) (a := a1) (by decide +kernel) rfl (?_ : AW _ _ _ _ 126 _ _ _ _ _ _)
    refine AW.iconst (n := 4) (by decide +kernel) (?_ : AW _ _ _ _ 127 _ _ _ _ _ _)
    refine AW.imul (by decide +kernel) (?_ : AW _ _ _ _ 128 _ _ _ _ _ _)
    refine AW.iconst (n := 0) (by decide +kernel) (?_ : AW _ _ _ _ 129 _ _ _ _ _ _)
    refine AW.iadd (by decide +kernel) (?_ : AW _ _ _ _ 130 _ _ _ _ _ _)
    refine AW.bipush (n := 28) (by decide +kernel) (by decide +kernel) (?_ : AW _ _ _ _ 132 _ _ _ _ _ _)
    refine AW.callVw (g := cf_Books_shiftToBurden) (av := [zI ((a1 * 4) + 0), zI 28]) (b0 := 0) (ci := 0) (idx := 90) (n := 2) (st := []) (by decide +kernel) (fun l hl r hr => c_Books_shiftToBurden l hl ((a1 * 4) + 0) 28 _ r hr) S_Books3_wf rfl cal_Books_shiftToBurden rfl (zw4 zm_X0_90 zi_yX0_shiftToBurden zs_yX0_shiftToBurden zn_X0) rfl rfl ⟨by decide, by decide, by decide, by decide⟩ (Nat.le_of_ble_eq_true rfl) (Or.inl rfl) (fun v μ19 => AW.kV (?_ : AW _ _ _ _ 135 _ _ _ _ _ _) v)
    refine AW.aload_n (i := 0) (a := 0) (by decide +kernel) rfl (?_ : AW _ _ _ _ 136 _ _ _ _ _ _)
    refine AW.iload_n (i := 1) (a := a1) (by decide +kernel) rfl (?_ : AW _ _ _ _ 137 _ _ _ _ _ _)
    refine AW.iconst (n := 4) (by decide +kernel) (?_ : AW _ _ _ _ 138 _ _ _ _ _ _)
    refine AW.imul (by decide +kernel) (?_ : AW _ _ _ _ 139 _ _ _ _ _ _)
    refine AW.iconst (n := 1) (by decide +kernel) (?_ : AW _ _ _ _ 140 _ _ _ _ _ _)
    refine AW.iadd (by decide +kernel) (?_ : AW _ _ _ _ 141 _ _ _ _ _ _)
    refine AW.bipush (n := 29) (by decide +kernel) (by decide +kernel) (?_ : AW _ _ _ _ 143 _ _ _ _ _ _)
    refine AW.callVw (g := cf_Books_shiftToBurden) (av := [zI ((a1 * 4) + 1), zI 29]) (b0 := 0) (ci := 0) (idx := 90) (n := 2) (st := []) (by decide +kernel) (fun l hl r hr => c_Books_shiftToBurden l hl ((a1 * 4) + 1) 29 _ r hr) S_Books3_wf rfl cal_Books_shiftToBurden rfl (zw4 zm_X0_90 zi_yX0_shiftToBurden zs_yX0_shiftToBurden zn_X0) rfl rfl ⟨by decide, by decide, by decide, by decide⟩ (Nat.le_of_ble_eq_true rfl) (Or.inl rfl) (fun v μ21 => AW.kV (?_ : AW _ _ _ _ 146 _ _ _ _ _ _) v)
    exact AW.retv (by decide +kernel) rfl (by decide) (by decide)
def F_Books_sellDeal (a1 : Int) (a2 : Int) (a3 : Int) (μ : ZMem) : Option ZRes := zRd μ 3 24 ((a1 * 4) + 1) (fun x1 => zWr μ 3 24 ((a1 * 4) + 1) (x1 + a2) (fun μ2 => zC (F_Books_measure 6 0 (w32 a2) μ2) (zkV (fun μ3 => zC (F_Books_pour 6 μ3) (zkV (fun μ5 => zC (F_Books_isDealwise  μ5) (zkI (fun x8 μ7 => if w32 x8 = 0 then (J_Books_sellDeal_49 a1 a3 μ7) else (zC (F_Books_measure a1 1 (w32 a2) μ7) (zkV (fun μ23 => zC (F_Books_pour a1 μ23) (zkV (fun μ25 => J_Books_sellDeal_49 a1 a3 μ25)) zX0)) zX0))) zX0)) zX0)) zX0))
set_option maxRecDepth 100000 in
theorem w_Books_sellDeal (a1 : Int) (a2 : Int) (a3 : Int) (μ : ZMem) : AW cf_Books_sellDeal S_Books3.length S_Books3 S_Books3 0 [(0, zR (some 0)), (1, zI a1), (2, zI a2), (3, zI a3)] [] μ 0 0 (F_Books_sellDeal a1 a2 a3 μ) := by
  unfold F_Books_sellDeal
  refine AW.aload_n (i := 0) (a := 0) (by decide +kernel) rfl (?_ : AW _ _ _ _ 1 _ _ _ _ _ _)
  refine AW.getR (idx := 19) (ci := 0) (k := 2) (r := 0) (by decide +kernel) rfl rfl rfl (?_ : AW _ _ _ _ 4 _ _ _ _ _ _)
  refine AW.iload_n (i := 1) (a := a1) (by decide +kernel) rfl (?_ : AW _ _ _ _ 5 _ _ _ _ _ _)
  refine AW.iconst (n := 4) (by decide +kernel) (?_ : AW _ _ _ _ 6 _ _ _ _ _ _)
  refine AW.imul (by decide +kernel) (?_ : AW _ _ _ _ 7 _ _ _ _ _ _)
  refine AW.iconst (n := 1) (by decide +kernel) (?_ : AW _ _ _ _ 8 _ _ _ _ _ _)
  refine AW.iadd (by decide +kernel) (?_ : AW _ _ _ _ 9 _ _ _ _ _ _)
  refine AW.dup2 (by decide +kernel) rfl rfl (?_ : AW _ _ _ _ 10 _ _ _ _ _ _)
  refine AW.iald (r := 3) (by decide +kernel) rfl (fun x1 => (?_ : AW _ _ _ _ 11 _ _ _ _ _ _))
  refine AW.iload_n (i := 2) (a := a2) (by decide +kernel) rfl (?_ : AW _ _ _ _ 12 _ _ _ _ _ _)
  refine AW.iadd (by decide +kernel) (?_ : AW _ _ _ _ 13 _ _ _ _ _ _)
  refine AW.iastL (r := 3) (by decide +kernel) rfl (fun μ2 => (?_ : AW _ _ _ _ 14 _ _ _ _ _ _))
  refine AW.aload_n (i := 0) (a := 0) (by decide +kernel) rfl (?_ : AW _ _ _ _ 15 _ _ _ _ _ _)
  refine AW.bipush (n := 6) (by decide +kernel) (by decide +kernel) (?_ : AW _ _ _ _ 17 _ _ _ _ _ _)
  refine AW.iconst (n := 0) (by decide +kernel) (?_ : AW _ _ _ _ 18 _ _ _ _ _ _)
  refine AW.iload_n (i := 2) (a := a2) (by decide +kernel) rfl (?_ : AW _ _ _ _ 19 _ _ _ _ _ _)
  refine AW.i2l (by decide +kernel) (?_ : AW _ _ _ _ 20 _ _ _ _ _ _)
  refine AW.callVw (g := cf_Books_measure) (av := [zI 6, zI 0, zJ (w32 a2)]) (b0 := 0) (ci := 0) (idx := 82) (n := 3) (st := []) (by decide +kernel) (fun l hl r hr => c_Books_measure l hl 6 0 (w32 a2) _ r hr) S_Books3_wf rfl cal_Books_measure rfl (zw4 zm_X0_82 zi_yX0_measure zs_yX0_measure zn_X0) rfl rfl ⟨by decide, by decide, by decide, by decide⟩ (Nat.le_of_ble_eq_true rfl) (Or.inl rfl) (fun v μ3 => AW.kV (?_ : AW _ _ _ _ 23 _ _ _ _ _ _) v)
  refine AW.aload_n (i := 0) (a := 0) (by decide +kernel) rfl (?_ : AW _ _ _ _ 24 _ _ _ _ _ _)
  refine AW.bipush (n := 6) (by decide +kernel) (by decide +kernel) (?_ : AW _ _ _ _ 26 _ _ _ _ _ _)
  refine AW.callVw (g := cf_Books_pour) (av := [zI 6]) (b0 := 0) (ci := 0) (idx := 86) (n := 1) (st := []) (by decide +kernel) (fun l hl r hr => c_Books_pour l hl 6 _ r hr) S_Books3_wf rfl cal_Books_pour rfl (zw4 zm_X0_86 zi_yX0_pour zs_yX0_pour zn_X0) rfl rfl ⟨by decide, by decide, by decide, by decide⟩ (Nat.le_of_ble_eq_true rfl) (Or.inl rfl) (fun v μ5 => AW.kV (?_ : AW _ _ _ _ 29 _ _ _ _ _ _) v)
  refine AW.aload_n (i := 0) (a := 0) (by decide +kernel) rfl (?_ : AW _ _ _ _ 30 _ _ _ _ _ _)
  refine AW.callVw (g := cf_Books_isDealwise) (av := []) (b0 := 0) (ci := 0) (idx := 62) (n := 0) (st := []) (by decide +kernel) (fun l hl r hr => c_Books_isDealwise l hl  _ r hr) S_Books3_wf rfl cal_Books_isDealwise rfl (zw4 zm_X0_62 zi_yX0_isDealwise zs_yX0_isDealwise zn_X0) rfl rfl ⟨by decide, by decide, by decide, by decide⟩ (Nat.le_of_ble_eq_true rfl) (Or.inl rfl) (fun v μ7 => AW.kI (fun x8 => (?_ : AW _ _ _ _ 33 _ _ _ _ _ _)) v)
  refine AW.if_eq (off := 16) (tgt := 49) (by decide +kernel) (by decide) (fun _ => ?_) (fun _ => ?_)
  · refine AW.sub (L' := [(0, zR (some 0)), (1, zI a1), (3, zI a3)]) [0, 1, 3] rfl ?_
    exact j_Books_sellDeal_49 a1 a3 μ7
  · refine AW.aload_n (i := 0) (a := 0) (by decide +kernel) rfl (?_ : AW _ _ _ _ 37 _ _ _ _ _ _)
    refine AW.iload_n (i := 1) (a := a1) (by decide +kernel) rfl (?_ : AW _ _ _ _ 38 _ _ _ _ _ _)
    refine AW.iconst (n := 1) (by decide +kernel) (?_ : AW _ _ _ _ 39 _ _ _ _ _ _)
    refine AW.iload_n (i := 2) (a := a2) (by decide +kernel) rfl (?_ : AW _ _ _ _ 40 _ _ _ _ _ _)
    refine AW.i2l (by decide +kernel) (?_ : AW _ _ _ _ 41 _ _ _ _ _ _)
    refine AW.callVw (g := cf_Books_measure) (av := [zI a1, zI 1, zJ (w32 a2)]) (b0 := 0) (ci := 0) (idx := 82) (n := 3) (st := []) (by decide +kernel) (fun l hl r hr => c_Books_measure l hl a1 1 (w32 a2) _ r hr) S_Books3_wf rfl cal_Books_measure rfl (zw4 zm_X0_82 zi_yX0_measure zs_yX0_measure zn_X0) rfl rfl ⟨by decide, by decide, by decide, by decide⟩ (Nat.le_of_ble_eq_true rfl) (Or.inl rfl) (fun v μ23 => AW.kV (?_ : AW _ _ _ _ 44 _ _ _ _ _ _) v)
    refine AW.aload_n (i := 0) (a := 0) (by decide +kernel) rfl (?_ : AW _ _ _ _ 45 _ _ _ _ _ _)
    refine AW.iload_n (i := 1) (a := a1) (by decide +kernel) rfl (?_ : AW _ _ _ _ 46 _ _ _ _ _ _)
    refine AW.callVw (g := cf_Books_pour) (av := [zI a1]) (b0 := 0) (ci := 0) (idx := 86) (n := 1) (st := []) (by decide +kernel) (fun l hl r hr => c_Books_pour l hl a1 _ r hr) S_Books3_wf rfl cal_Books_pour rfl (zw4 zm_X0_86 zi_yX0_pour zs_yX0_pour zn_X0) rfl rfl ⟨by decide, by decide, by decide, by decide⟩ (Nat.le_of_ble_eq_true rfl) (Or.inl rfl) (fun v μ25 => AW.kV (?_ : AW _ _ _ _ 49 _ _ _ _ _ _) v)
    refine AW.sub (L' := [(0, zR (some 0)), (1, zI a1), (3, zI a3)]) [0, 1, 3] rfl ?_
    exact j_Books_sellDeal_49 a1 a3 μ25
theorem c_Books_sellDeal (l : Launch) (hl : l.stackTraces = false) (a1 : Int) (a2 : Int) (a3 : Int) (μ : ZMem) (r : ZRes) (h : F_Books_sellDeal a1 a2 a3 μ = some r) : ZC l cf_Books_sellDeal S_Books3 S_Books3 [zR (some 0), zI a1, zI a2, zI a3] μ r := ZC.of hl (by decide +kernel) rfl rfl zft_X0_ok (Nat.le_of_ble_eq_true rfl) h (w_Books_sellDeal a1 a2 a3 μ)
/-! WeirLedger$Books.sellAll()J -/
def cf_Books_sellAll : ZCf := (yX0_sellAll, cX0_sellAll, 4, some .long, [], 5, 0, 0, zft_X0, none)
theorem cal_Books_sellAll : zCallee cf_Books_sellAll 0 := ⟨rfl, zc_yX0_sellAll, by decide, by decide, by decide +kernel⟩
def J_Books_sellAll_45 (R : Int → Int → ZMem → Option ZRes) (K : Int → ZMem → Option ZRes) (u1 : Int) (u3 : Int) (μ : ZMem) : Option ZRes := zLet (u3 + 1) (fun x3 => R u1 x3 μ)
set_option maxRecDepth 100000 in
theorem j_Books_sellAll_45 {R : Int → Int → ZMem → Option ZRes} {K : Int → ZMem → Option ZRes} (hR : ∀ (v1 : Int) (v3 : Int) (μ : ZMem), AW cf_Books_sellAll S_Books3.length S_Books3 S_Books3 4 [(0, zR (some 0)), (1, zJ v1), (3, zI v3)] [] μ 0 0 (R v1 v3 μ)) (hK : ∀ (k1 : Int) (μ : ZMem), AW cf_Books_sellAll S_Books3.length S_Books3 S_Books3 51 [(1, zJ k1)] [] μ 0 0 (K k1 μ)) (u1 : Int) (u3 : Int) (μ : ZMem) : AW cf_Books_sellAll S_Books3.length S_Books3 S_Books3 45 [(0, zR (some 0)), (1, zJ u1), (3, zI u3)] [] μ 0 0 (J_Books_sellAll_45 R K u1 u3 μ) := by
  unfold J_Books_sellAll_45
  refine AW.iincL (i := 3) (n := 1) (a := u3) (L' := fun x3 => [(3, zI x3), (0, zR (some 0)), (1, zJ u1)]) (by decide +kernel) rfl (by decide) (fun _ => rfl) (fun x3 => (?_ : AW _ _ _ _ 48 _ _ _ _ _ _))
  refine AW.goto (off := -44) (tgt := 4) (by decide +kernel) (by decide) ?_
  refine AW.sub (L' := [(0, zR (some 0)), (1, zJ u1), (3, zI x3)]) [1, 2, 0] rfl ?_
  exact hR u1 x3 μ
def L_Books_sellAll_4 (K : Int → ZMem → Option ZRes) : Nat → Int → Int → ZMem → Option ZRes
  | 0, _, _, _ => none
  | n + 1, v1, v3, μ => if w32 (μ 0 5) ≤ w32 v3 then (K v1 μ) else (zC (F_Books_isOpen v3 μ) (zkI (fun x2 μ1 => if w32 x2 = 0 then (J_Books_sellAll_45 (fun v1 v3 μ => L_Books_sellAll_4 K n v1 v3 μ) K v1 v3 μ1) else (zRd μ1 3 24 ((v3 * 4) + 2) (fun x4 => zC (F_Books_sellDeal v3 x4 1 μ1) (zkV (fun μ5 => zRd μ5 5 6 5 (fun x7 => zLet ((v1 + x7)) (fun x8 => J_Books_sellAll_45 (fun v1 v3 μ => L_Books_sellAll_4 K n v1 v3 μ) K x8 v3 μ5)))) zX0)))) zX0)
set_option maxRecDepth 100000 in
theorem l_Books_sellAll_4 {K : Int → ZMem → Option ZRes} (hK : ∀ (k1 : Int) (μ : ZMem), AW cf_Books_sellAll S_Books3.length S_Books3 S_Books3 51 [(1, zJ k1)] [] μ 0 0 (K k1 μ)) : ∀ (n : Nat) (v1 : Int) (v3 : Int) (μ : ZMem), AW cf_Books_sellAll S_Books3.length S_Books3 S_Books3 4 [(0, zR (some 0)), (1, zJ v1), (3, zI v3)] [] μ 0 0 (L_Books_sellAll_4 K n v1 v3 μ) := by
  intro n
  induction n with
  | zero => intro v1 v3 μ; exact AW.noth
  | succ n ih =>
    intro v1 v3 μ
    rw [L_Books_sellAll_4]
    refine AW.iload_n (i := 3) (a := v3) (by decide +kernel) rfl (?_ : AW _ _ _ _ 5 _ _ _ _ _ _)
    refine AW.aload_n (i := 0) (a := 0) (by decide +kernel) rfl (?_ : AW _ _ _ _ 6 _ _ _ _ _ _)
    refine AW.getI (idx := 50) (ci := 0) (k := 5) (r := 0) (by decide +kernel) rfl rfl rfl (?_ : AW _ _ _ _ 9 _ _ _ _ _ _)
    refine AW.icmp_ge (off := 42) (tgt := 51) (by decide +kernel) (by decide) (fun _ => ?_) (fun _ => ?_)
    · refine AW.sub (L' := [(1, zJ v1)]) [1] rfl ?_
      exact hK v1 μ
    · refine AW.aload_n (i := 0) (a := 0) (by decide +kernel) rfl (?_ : AW _ _ _ _ 13 _ _ _ _ _ _)
      refine AW.iload_n (i := 3) (a := v3) (by decide +kernel) rfl (?_ : AW _ _ _ _ 14 _ _ _ _ _ _)
      refine AW.callVw (g := cf_Books_isOpen) (av := [zI v3]) (b0 := 0) (ci := 0) (idx := 58) (n := 1) (st := []) (by decide +kernel) (fun l hl r hr => c_Books_isOpen l hl v3 _ r hr) S_Books3_wf rfl cal_Books_isOpen rfl (zw4 zm_X0_58 zi_yX0_isOpen zs_yX0_isOpen zn_X0) rfl rfl ⟨by decide, by decide, by decide, by decide⟩ (Nat.le_of_ble_eq_true rfl) (Or.inl rfl) (fun v μ1 => AW.kI (fun x2 => (?_ : AW _ _ _ _ 17 _ _ _ _ _ _)) v)
      refine AW.if_eq (off := 28) (tgt := 45) (by decide +kernel) (by decide) (fun _ => ?_) (fun _ => ?_)
      · exact j_Books_sellAll_45 ih hK v1 v3 μ1
      · refine AW.aload_n (i := 0) (a := 0) (by decide +kernel) rfl (?_ : AW _ _ _ _ 21 _ _ _ _ _ _)
        refine AW.iload_n (i := 3) (a := v3) (by decide +kernel) rfl (?_ : AW _ _ _ _ 22 _ _ _ _ _ _)
        refine AW.aload_n (i := 0) (a := 0) (by decide +kernel) rfl (?_ : AW _ _ _ _ 23 _ _ _ _ _ _)
        refine AW.getR (idx := 19) (ci := 0) (k := 2) (r := 0) (by decide +kernel) rfl rfl rfl (?_ : AW _ _ _ _ 26 _ _ _ _ _ _)
        refine AW.iload_n (i := 3) (a := v3) (by decide +kernel) rfl (?_ : AW _ _ _ _ 27 _ _ _ _ _ _)
        refine AW.iconst (n := 4) (by decide +kernel) (?_ : AW _ _ _ _ 28 _ _ _ _ _ _)
        refine AW.imul (by decide +kernel) (?_ : AW _ _ _ _ 29 _ _ _ _ _ _)
        refine AW.iconst (n := 2) (by decide +kernel) (?_ : AW _ _ _ _ 30 _ _ _ _ _ _)
        refine AW.iadd (by decide +kernel) (?_ : AW _ _ _ _ 31 _ _ _ _ _ _)
        refine AW.iald (r := 3) (by decide +kernel) rfl (fun x4 => (?_ : AW _ _ _ _ 32 _ _ _ _ _ _))
        refine AW.iconst (n := 1) (by decide +kernel) (?_ : AW _ _ _ _ 33 _ _ _ _ _ _)
        refine AW.callVw (g := cf_Books_sellDeal) (av := [zI v3, zI x4, zI 1]) (b0 := 0) (ci := 0) (idx := 94) (n := 3) (st := []) (by decide +kernel) (fun l hl r hr => c_Books_sellDeal l hl v3 x4 1 _ r hr) S_Books3_wf rfl cal_Books_sellDeal rfl (zw4 zm_X0_94 zi_yX0_sellDeal zs_yX0_sellDeal zn_X0) rfl rfl ⟨by decide, by decide, by decide, by decide⟩ (Nat.le_of_ble_eq_true rfl) (Or.inl rfl) (fun v μ5 => AW.kV (?_ : AW _ _ _ _ 36 _ _ _ _ _ _) v)
        refine AW.lload_n (i := 1) (a := v1) (by decide +kernel) rfl (?_ : AW _ _ _ _ 37 _ _ _ _ _ _)
        refine AW.aload_n (i := 0) (a := 0) (by decide +kernel) rfl (?_ : AW _ _ _ _ 38 _ _ _ _ _ _)
        refine AW.getR (idx := 25) (ci := 0) (k := 4) (r := 0) (by decide +kernel) rfl rfl rfl (?_ : AW _ _ _ _ 41 _ _ _ _ _ _)
        refine AW.iconst (n := 5) (by decide +kernel) (?_ : AW _ _ _ _ 42 _ _ _ _ _ _)
        refine AW.lald (r := 5) (by decide +kernel) rfl (fun x7 => (?_ : AW _ _ _ _ 43 _ _ _ _ _ _))
        refine AW.ladd (by decide +kernel) (?_ : AW _ _ _ _ 44 _ _ _ _ _ _)
        refine AW.lstoreL_n (i := 1) (L' := fun x8 => [(1, zJ x8), (0, zR (some 0)), (3, zI v3)]) (by decide +kernel) (by decide) (fun _ => rfl) (fun x8 => (?_ : AW _ _ _ _ 45 _ _ _ _ _ _))
        refine AW.sub (L' := [(0, zR (some 0)), (1, zJ x8), (3, zI v3)]) [1, 0, 2] rfl ?_
        exact j_Books_sellAll_45 ih hK x8 v3 μ5
def F_Books_sellAll (μ : ZMem) : Option ZRes := L_Books_sellAll_4 (fun k10 μ9 => some (.inr (some (zJ k10)), μ9)) zN 0 0 μ
set_option maxRecDepth 100000 in
theorem w_Books_sellAll (μ : ZMem) : AW cf_Books_sellAll S_Books3.length S_Books3 S_Books3 0 [(0, zR (some 0))] [] μ 0 0 (F_Books_sellAll μ) := by
  unfold F_Books_sellAll
  refine AW.lconst0 (by decide +kernel) (?_ : AW _ _ _ _ 1 _ _ _ _ _ _)
  refine AW.lstore_n' (i := 1) (L' := [(1, zJ 0), (0, zR (some 0))]) (by decide +kernel) (by decide) rfl (?_ : AW _ _ _ _ 2 _ _ _ _ _ _)
  refine AW.iconst (n := 0) (by decide +kernel) (?_ : AW _ _ _ _ 3 _ _ _ _ _ _)
  refine AW.istore_n' (i := 3) (L' := [(3, zI 0), (1, zJ 0), (0, zR (some 0))]) (by decide +kernel) (by decide) rfl (?_ : AW _ _ _ _ 4 _ _ _ _ _ _)
  refine AW.sub (L' := [(0, zR (some 0)), (1, zJ 0), (3, zI 0)]) [2, 1, 0] rfl ?_
  refine l_Books_sellAll_4 (fun k10 μ9 => ?_) zN _ _ _
  refine AW.lload_n (i := 1) (a := k10) (by decide +kernel) rfl (?_ : AW _ _ _ _ 52 _ _ _ _ _ _)
  exact AW.retl (by decide +kernel) rfl (by decide) (by decide)
theorem c_Books_sellAll (l : Launch) (hl : l.stackTraces = false) (μ : ZMem) (r : ZRes) (h : F_Books_sellAll μ = some r) : ZC l cf_Books_sellAll S_Books3 S_Books3 [zR (some 0)] μ r := ZC.of hl (by decide +kernel) rfl rfl zft_X0_ok (Nat.le_of_ble_eq_true rfl) h (w_Books_sellAll μ)
/-! WeirLedger$Books.dueNow()J -/
def cf_Books_dueNow : ZCf := (yX0_dueNow, cX0_dueNow, 1, some .long, [], 2, 0, 0, zft_X0, none)
theorem cal_Books_dueNow : zCallee cf_Books_dueNow 0 := ⟨rfl, zc_yX0_dueNow, by decide, by decide, by decide +kernel⟩
def F_Books_dueNow (μ : ZMem) : Option ZRes := zRd μ 4 4 0 (fun x1 => zRd μ 2 32 27 (fun x2 => some (.inr (some (zJ (zmaxJ 0 (x1 - x2)))), μ)))
set_option maxRecDepth 100000 in
theorem w_Books_dueNow (μ : ZMem) : AW cf_Books_dueNow S_Books3.length S_Books3 S_Books3 0 [(0, zR (some 0))] [] μ 0 0 (F_Books_dueNow μ) := by
  unfold F_Books_dueNow
  refine AW.lconst0 (by decide +kernel) (?_ : AW _ _ _ _ 1 _ _ _ _ _ _)
  refine AW.aload_n (i := 0) (a := 0) (by decide +kernel) rfl (?_ : AW _ _ _ _ 2 _ _ _ _ _ _)
  refine AW.getR (idx := 22) (ci := 0) (k := 3) (r := 0) (by decide +kernel) rfl rfl rfl (?_ : AW _ _ _ _ 5 _ _ _ _ _ _)
  refine AW.iconst (n := 0) (by decide +kernel) (?_ : AW _ _ _ _ 6 _ _ _ _ _ _)
  refine AW.lald (r := 4) (by decide +kernel) rfl (fun x1 => (?_ : AW _ _ _ _ 7 _ _ _ _ _ _))
  refine AW.aload_n (i := 0) (a := 0) (by decide +kernel) rfl (?_ : AW _ _ _ _ 8 _ _ _ _ _ _)
  refine AW.getR (idx := 15) (ci := 0) (k := 1) (r := 0) (by decide +kernel) rfl rfl rfl (?_ : AW _ _ _ _ 11 _ _ _ _ _ _)
  refine AW.bipush (n := 27) (by decide +kernel) (by decide +kernel) (?_ : AW _ _ _ _ 13 _ _ _ _ _ _)
  refine AW.lald (r := 2) (by decide +kernel) rfl (fun x2 => (?_ : AW _ _ _ _ 14 _ _ _ _ _ _))
  refine AW.lsub (by decide +kernel) (?_ : AW _ _ _ _ 15 _ _ _ _ _ _)
  refine AW.maxJ (idx := 98) (by decide +kernel) zm_X0_98 rfl (?_ : AW _ _ _ _ 18 _ _ _ _ _ _)
  exact AW.retl (by decide +kernel) rfl (by decide) (by decide)
theorem c_Books_dueNow (l : Launch) (hl : l.stackTraces = false) (μ : ZMem) (r : ZRes) (h : F_Books_dueNow μ = some r) : ZC l cf_Books_dueNow S_Books3 S_Books3 [zR (some 0)] μ r := ZC.of hl (by decide +kernel) rfl rfl zft_X0_ok (Nat.le_of_ble_eq_true rfl) h (w_Books_dueNow μ)
/-! WeirLedger$Books.clawFromOut(J)J -/
def cf_Books_clawFromOut : ZCf := (yX0_clawFromOut, cX0_clawFromOut, 5, some .long, [], 2, 0, 0, zft_X0, none)
theorem cal_Books_clawFromOut : zCallee cf_Books_clawFromOut 1 := ⟨rfl, zc_yX0_clawFromOut, by decide, by decide, by decide +kernel⟩
def F_Books_clawFromOut (a1 : Int) (μ : ZMem) : Option ZRes := zRd μ 4 4 1 (fun x1 => zRd μ 1 7 4 (fun x2 => zRd μ 4 4 1 (fun x3 => zLet ((x1 - ((w64 ((w32 x2) * x3)).tdiv (w64 100)))) (fun x4 => some (.inr (some (zJ (zminJ a1 x4))), μ)))))
set_option maxRecDepth 100000 in
theorem w_Books_clawFromOut (a1 : Int) (μ : ZMem) : AW cf_Books_clawFromOut S_Books3.length S_Books3 S_Books3 0 [(0, zR (some 0)), (1, zJ a1)] [] μ 0 0 (F_Books_clawFromOut a1 μ) := by
  unfold F_Books_clawFromOut
  refine AW.aload_n (i := 0) (a := 0) (by decide +kernel) rfl (?_ : AW _ _ _ _ 1 _ _ _ _ _ _)
  refine AW.getR (idx := 22) (ci := 0) (k := 3) (r := 0) (by decide +kernel) rfl rfl rfl (?_ : AW _ _ _ _ 4 _ _ _ _ _ _)
  refine AW.iconst (n := 1) (by decide +kernel) (?_ : AW _ _ _ _ 5 _ _ _ _ _ _)
  refine AW.lald (r := 4) (by decide +kernel) rfl (fun x1 => (?_ : AW _ _ _ _ 6 _ _ _ _ _ _))
  refine AW.aload_n (i := 0) (a := 0) (by decide +kernel) rfl (?_ : AW _ _ _ _ 7 _ _ _ _ _ _)
  refine AW.getR (idx := 9) (ci := 0) (k := 0) (r := 0) (by decide +kernel) rfl rfl rfl (?_ : AW _ _ _ _ 10 _ _ _ _ _ _)
  refine AW.iconst (n := 4) (by decide +kernel) (?_ : AW _ _ _ _ 11 _ _ _ _ _ _)
  refine AW.iald (r := 1) (by decide +kernel) rfl (fun x2 => (?_ : AW _ _ _ _ 12 _ _ _ _ _ _))
  refine AW.i2l (by decide +kernel) (?_ : AW _ _ _ _ 13 _ _ _ _ _ _)
  refine AW.aload_n (i := 0) (a := 0) (by decide +kernel) rfl (?_ : AW _ _ _ _ 14 _ _ _ _ _ _)
  refine AW.getR (idx := 22) (ci := 0) (k := 3) (r := 0) (by decide +kernel) rfl rfl rfl (?_ : AW _ _ _ _ 17 _ _ _ _ _ _)
  refine AW.iconst (n := 1) (by decide +kernel) (?_ : AW _ _ _ _ 18 _ _ _ _ _ _)
  refine AW.lald (r := 4) (by decide +kernel) rfl (fun x3 => (?_ : AW _ _ _ _ 19 _ _ _ _ _ _))
  refine AW.lmul (by decide +kernel) (?_ : AW _ _ _ _ 20 _ _ _ _ _ _)
  refine AW.ldc2 (idx := 80) (v := 100) (by decide +kernel) zk_X0_80 (?_ : AW _ _ _ _ 23 _ _ _ _ _ _)
  refine AW.ldiv (by decide +kernel) (by decide +kernel) (?_ : AW _ _ _ _ 24 _ _ _ _ _ _)
  refine AW.lsub (by decide +kernel) (?_ : AW _ _ _ _ 25 _ _ _ _ _ _)
  refine AW.lstoreL_n (i := 3) (L' := fun x4 => [(3, zJ x4), (0, zR (some 0)), (1, zJ a1)]) (by decide +kernel) (by decide) (fun _ => rfl) (fun x4 => (?_ : AW _ _ _ _ 26 _ _ _ _ _ _))
  refine AW.lload_n (i := 1) (a := a1) (by decide +kernel) rfl (?_ : AW _ _ _ _ 27 _ _ _ _ _ _)
  refine AW.lload_n (i := 3) (a := x4) (by decide +kernel) rfl (?_ : AW _ _ _ _ 28 _ _ _ _ _ _)
  refine AW.minJ (idx := 70) (by decide +kernel) zm_X0_70 rfl (?_ : AW _ _ _ _ 31 _ _ _ _ _ _)
  exact AW.retl (by decide +kernel) rfl (by decide) (by decide)
theorem c_Books_clawFromOut (l : Launch) (hl : l.stackTraces = false) (a1 : Int) (μ : ZMem) (r : ZRes) (h : F_Books_clawFromOut a1 μ = some r) : ZC l cf_Books_clawFromOut S_Books3 S_Books3 [zR (some 0), zJ a1] μ r := ZC.of hl (by decide +kernel) rfl rfl zft_X0_ok (Nat.le_of_ble_eq_true rfl) h (w_Books_clawFromOut a1 μ)
/-! WeirLedger$Books.clawDue()J -/
def cf_Books_clawDue : ZCf := (yX0_clawDue, cX0_clawDue, 5, some .long, [], 3, 0, 0, zft_X0, none)
theorem cal_Books_clawDue : zCallee cf_Books_clawDue 0 := ⟨rfl, zc_yX0_clawDue, by decide, by decide, by decide +kernel⟩
def F_Books_clawDue (μ : ZMem) : Option ZRes := if w32 (μ 0 7) = 0 then (zC (F_Books_dueNow  μ) (zkJ (fun x2 μ1 => zRd μ1 4 4 2 (fun x3 => zLet ((zminJ x3 x2)) (fun x4 => zC (F_Books_clawFromOut (x2 - x4) μ1) (zkJ (fun x6 μ5 => some (.inr (some (zJ (x4 + x6))), μ5))) zX0)))) zX0) else (some (.inr (some (zJ 0)), μ))
set_option maxRecDepth 100000 in
theorem w_Books_clawDue (μ : ZMem) : AW cf_Books_clawDue S_Books3.length S_Books3 S_Books3 0 [(0, zR (some 0))] [] μ 0 0 (F_Books_clawDue μ) := by
  unfold F_Books_clawDue
  refine AW.aload_n (i := 0) (a := 0) (by decide +kernel) rfl (?_ : AW _ _ _ _ 1 _ _ _ _ _ _)
  refine AW.getZ (idx := 54) (ci := 0) (k := 7) (r := 0) (by decide +kernel) rfl rfl rfl (?_ : AW _ _ _ _ 4 _ _ _ _ _ _)
  refine AW.if_eq (off := 5) (tgt := 9) (by decide +kernel) (by decide) (fun _ => ?_) (fun _ => ?_)
  · refine AW.aload_n (i := 0) (a := 0) (by decide +kernel) rfl (?_ : AW _ _ _ _ 10 _ _ _ _ _ _)
    refine AW.callVw (g := cf_Books_dueNow) (av := []) (b0 := 0) (ci := 0) (idx := 101) (n := 0) (st := []) (by decide +kernel) (fun l hl r hr => c_Books_dueNow l hl  _ r hr) S_Books3_wf rfl cal_Books_dueNow rfl (zw4 zm_X0_101 zi_yX0_dueNow zs_yX0_dueNow zn_X0) rfl rfl ⟨by decide, by decide, by decide, by decide⟩ (Nat.le_of_ble_eq_true rfl) (Or.inl rfl) (fun v μ1 => AW.kJ (fun x2 => (?_ : AW _ _ _ _ 13 _ _ _ _ _ _)) v)
    refine AW.lstore_n' (i := 1) (L' := [(1, zJ x2), (0, zR (some 0))]) (by decide +kernel) (by decide) rfl (?_ : AW _ _ _ _ 14 _ _ _ _ _ _)
    refine AW.aload_n (i := 0) (a := 0) (by decide +kernel) rfl (?_ : AW _ _ _ _ 15 _ _ _ _ _ _)
    refine AW.getR (idx := 22) (ci := 0) (k := 3) (r := 0) (by decide +kernel) rfl rfl rfl (?_ : AW _ _ _ _ 18 _ _ _ _ _ _)
    refine AW.iconst (n := 2) (by decide +kernel) (?_ : AW _ _ _ _ 19 _ _ _ _ _ _)
    refine AW.lald (r := 4) (by decide +kernel) rfl (fun x3 => (?_ : AW _ _ _ _ 20 _ _ _ _ _ _))
    refine AW.lload_n (i := 1) (a := x2) (by decide +kernel) rfl (?_ : AW _ _ _ _ 21 _ _ _ _ _ _)
    refine AW.minJ (idx := 70) (by decide +kernel) zm_X0_70 rfl (?_ : AW _ _ _ _ 24 _ _ _ _ _ _)
    refine AW.lstoreL_n (i := 3) (L' := fun x4 => [(3, zJ x4), (1, zJ x2), (0, zR (some 0))]) (by decide +kernel) (by decide) (fun _ => rfl) (fun x4 => (?_ : AW _ _ _ _ 25 _ _ _ _ _ _))
    refine AW.lload_n (i := 3) (a := x4) (by decide +kernel) rfl (?_ : AW _ _ _ _ 26 _ _ _ _ _ _)
    refine AW.aload_n (i := 0) (a := 0) (by decide +kernel) rfl (?_ : AW _ _ _ _ 27 _ _ _ _ _ _)
    refine AW.lload_n (i := 1) (a := x2) (by decide +kernel) rfl (?_ : AW _ _ _ _ 28 _ _ _ _ _ _)
    refine AW.lload_n (i := 3) (a := x4) (by decide +kernel) rfl (?_ : AW _ _ _ _ 29 _ _ _ _ _ _)
    refine AW.lsub (by decide +kernel) (?_ : AW _ _ _ _ 30 _ _ _ _ _ _)
    refine AW.callVw (g := cf_Books_clawFromOut) (av := [zJ (x2 - x4)]) (b0 := 0) (ci := 0) (idx := 105) (n := 1) (st := [zJ x4]) (by decide +kernel) (fun l hl r hr => c_Books_clawFromOut l hl (x2 - x4) _ r hr) S_Books3_wf rfl cal_Books_clawFromOut rfl (zw4 zm_X0_105 zi_yX0_clawFromOut zs_yX0_clawFromOut zn_X0) rfl rfl ⟨by decide, by decide, by decide, by decide⟩ (Nat.le_of_ble_eq_true rfl) (Or.inl rfl) (fun v μ5 => AW.kJ (fun x6 => (?_ : AW _ _ _ _ 33 _ _ _ _ _ _)) v)
    refine AW.ladd (by decide +kernel) (?_ : AW _ _ _ _ 34 _ _ _ _ _ _)
    exact AW.retl (by decide +kernel) rfl (by decide) (by decide)
  · refine AW.lconst0 (by decide +kernel) (?_ : AW _ _ _ _ 8 _ _ _ _ _ _)
    exact AW.retl (by decide +kernel) rfl (by decide) (by decide)
theorem c_Books_clawDue (l : Launch) (hl : l.stackTraces = false) (μ : ZMem) (r : ZRes) (h : F_Books_clawDue μ = some r) : ZC l cf_Books_clawDue S_Books3 S_Books3 [zR (some 0)] μ r := ZC.of hl (by decide +kernel) rfl rfl zft_X0_ok (Nat.le_of_ble_eq_true rfl) h (w_Books_clawDue μ)
/-! WeirLedger$Books.settle()J -/
def cf_Books_settle : ZCf := (yX0_settle, cX0_settle, 7, some .long, [], 3, 0, 0, zft_X0, none)
theorem cal_Books_settle : zCallee cf_Books_settle 0 := ⟨rfl, zc_yX0_settle, by decide, by decide, by decide +kernel⟩
def F_Books_settle (μ : ZMem) : Option ZRes := zC (F_Books_dueNow  μ) (zkJ (fun x2 μ1 => zRd μ1 4 4 2 (fun x3 => zLet ((zminJ x3 x2)) (fun x4 => zC (F_Books_clawFromOut (x2 - x4) μ1) (zkJ (fun x6 μ5 => zRd μ5 4 4 3 (fun x7 => zWr μ5 4 4 3 (x7 + (x4 + x6)) (fun μ8 => zRd μ8 4 4 1 (fun x9 => zRd μ8 4 4 2 (fun x10 => zWr μ8 4 4 1 (x9 + ((x10 - x4) - x6)) (fun μ11 => zWr μ11 4 4 2 0 (fun μ12 => zLet (zUp μ12 0 7 1) (fun μ13 => some (.inr (some (zJ (x4 + x6))), μ13)))))))))) zX0)))) zX0
set_option maxRecDepth 100000 in
theorem w_Books_settle (μ : ZMem) : AW cf_Books_settle S_Books3.length S_Books3 S_Books3 0 [(0, zR (some 0))] [] μ 0 0 (F_Books_settle μ) := by
  unfold F_Books_settle
  refine AW.aload_n (i := 0) (a := 0) (by decide +kernel) rfl (?_ : AW _ _ _ _ 1 _ _ _ _ _ _)
  refine AW.callVw (g := cf_Books_dueNow) (av := []) (b0 := 0) (ci := 0) (idx := 101) (n := 0) (st := []) (by decide +kernel) (fun l hl r hr => c_Books_dueNow l hl  _ r hr) S_Books3_wf rfl cal_Books_dueNow rfl (zw4 zm_X0_101 zi_yX0_dueNow zs_yX0_dueNow zn_X0) rfl rfl ⟨by decide, by decide, by decide, by decide⟩ (Nat.le_of_ble_eq_true rfl) (Or.inl rfl) (fun v μ1 => AW.kJ (fun x2 => (?_ : AW _ _ _ _ 4 _ _ _ _ _ _)) v)
  refine AW.lstore_n' (i := 1) (L' := [(1, zJ x2), (0, zR (some 0))]) (by decide +kernel) (by decide) rfl (?_ : AW _ _ _ _ 5 _ _ _ _ _ _)
  refine AW.aload_n (i := 0) (a := 0) (by decide +kernel) rfl (?_ : AW _ _ _ _ 6 _ _ _ _ _ _)
  refine AW.getR (idx := 22) (ci := 0) (k := 3) (r := 0) (by decide +kernel) rfl rfl rfl (?_ : AW _ _ _ _ 9 _ _ _ _ _ _)
  refine AW.iconst (n := 2) (by decide +kernel) (?_ : AW _ _ _ _ 10 _ _ _ _ _ _)
  refine AW.lald (r := 4) (by decide +kernel) rfl (fun x3 => (?_ : AW _ _ _ _ 11 _ _ _ _ _ _))
  refine AW.lload_n (i := 1) (a := x2) (by decide +kernel) rfl (?_ : AW _ _ _ _ 12 _ _ _ _ _ _)
  refine AW.minJ (idx := 70) (by decide +kernel) zm_X0_70 rfl (?_ : AW _ _ _ _ 15 _ _ _ _ _ _)
  refine AW.lstoreL_n (i := 3) (L' := fun x4 => [(3, zJ x4), (1, zJ x2), (0, zR (some 0))]) (by decide +kernel) (by decide) (fun _ => rfl) (fun x4 => (?_ : AW _ _ _ _ 16 _ _ _ _ _ _))
  refine AW.aload_n (i := 0) (a := 0) (by decide +kernel) rfl (?_ : AW _ _ _ _ 17 _ _ _ _ _ _)
  refine AW.lload_n (i := 1) (a := x2) (by decide +kernel) rfl (?_ : AW _ _ _ _ 18 _ _ _ _ _ _)
  refine AW.lload_n (i := 3) (a := x4) (by decide +kernel) rfl (?_ : AW _ _ _ _ 19 _ _ _ _ _ _)
  refine AW.lsub (by decide +kernel) (?_ : AW _ _ _ _ 20 _ _ _ _ _ _)
  refine AW.callVw (g := cf_Books_clawFromOut) (av := [zJ (x2 - x4)]) (b0 := 0) (ci := 0) (idx := 105) (n := 1) (st := []) (by decide +kernel) (fun l hl r hr => c_Books_clawFromOut l hl (x2 - x4) _ r hr) S_Books3_wf rfl cal_Books_clawFromOut rfl (zw4 zm_X0_105 zi_yX0_clawFromOut zs_yX0_clawFromOut zn_X0) rfl rfl ⟨by decide, by decide, by decide, by decide⟩ (Nat.le_of_ble_eq_true rfl) (Or.inl rfl) (fun v μ5 => AW.kJ (fun x6 => (?_ : AW _ _ _ _ 23 _ _ _ _ _ _)) v)
  refine AW.lstore' (i := 5) (L' := [(5, zJ x6), (3, zJ x4), (1, zJ x2), (0, zR (some 0))]) (by decide +kernel) (by decide) rfl (?_ : AW _ _ _ _ 25 _ _ _ _ _ _)
  refine AW.aload_n (i := 0) (a := 0) (by decide +kernel) rfl (?_ : AW _ _ _ _ 26 _ _ _ _ _ _)
  refine AW.getR (idx := 22) (ci := 0) (k := 3) (r := 0) (by decide +kernel) rfl rfl rfl (?_ : AW _ _ _ _ 29 _ _ _ _ _ _)
  refine AW.iconst (n := 3) (by decide +kernel) (?_ : AW _ _ _ _ 30 _ _ _ _ _ _)
  refine AW.dup2 (by decide +kernel) rfl rfl (?_ : AW _ _ _ _ 31 _ _ _ _ _ _)
  refine AW.lald (r := 4) (by decide +kernel) rfl (fun x7 => (?_ : AW _ _ _ _ 32 _ _ _ _ _ _))
  refine AW.lload_n (i := 3) (a := x4) (by decide +kernel) rfl (?_ : AW _ _ _ _ 33 _ _ _ _ _ _)
  refine AW.lload (i := 5) (a := x6) (by decide +kernel) rfl (?_ : AW _ _ _ _ 35 _ _ _ _ _ _)
  refine AW.ladd (by decide +kernel) (?_ : AW _ _ _ _ 36 _ _ _ _ _ _)
  refine AW.ladd (by decide +kernel) (?_ : AW _ _ _ _ 37 _ _ _ _ _ _)
  refine AW.lastL (r := 4) (by decide +kernel) rfl (fun μ8 => (?_ : AW _ _ _ _ 38 _ _ _ _ _ _))
  refine AW.aload_n (i := 0) (a := 0) (by decide +kernel) rfl (?_ : AW _ _ _ _ 39 _ _ _ _ _ _)
  refine AW.getR (idx := 22) (ci := 0) (k := 3) (r := 0) (by decide +kernel) rfl rfl rfl (?_ : AW _ _ _ _ 42 _ _ _ _ _ _)
  refine AW.iconst (n := 1) (by decide +kernel) (?_ : AW _ _ _ _ 43 _ _ _ _ _ _)
  refine AW.dup2 (by decide +kernel) rfl rfl (?_ : AW _ _ _ _ 44 _ _ _ _ _ _)
  refine AW.lald (r := 4) (by decide +kernel) rfl (fun x9 => (?_ : AW _ _ _ _ 45 _ _ _ _ _ _))
  refine AW.aload_n (i := 0) (a := 0) (by decide +kernel) rfl (?_ : AW _ _ _ _ 46 _ _ _ _ _ _)
  refine AW.getR (idx := 22) (ci := 0) (k := 3) (r := 0) (by decide +kernel) rfl rfl rfl (?_ : AW _ _ _ _ 49 _ _ _ _ _ _)
  refine AW.iconst (n := 2) (by decide +kernel) (?_ : AW _ _ _ _ 50 _ _ _ _ _ _)
  refine AW.lald (r := 4) (by decide +kernel) rfl (fun x10 => (?_ : AW _ _ _ _ 51 _ _ _ _ _ _))
  refine AW.lload_n (i := 3) (a := x4) (by decide +kernel) rfl (?_ : AW _ _ _ _ 52 _ _ _ _ _ _)
  refine AW.lsub (by decide +kernel) (?_ : AW _ _ _ _ 53 _ _ _ _ _ _)
  refine AW.lload (i := 5) (a := x6) (by decide +kernel) rfl (?_ : AW _ _ _ _ 55 _ _ _ _ _ _)
  refine AW.lsub (by decide +kernel) (?_ : AW _ _ _ _ 56 _ _ _ _ _ _)
  refine AW.ladd (by decide +kernel) (?_ : AW _ _ _ _ 57 _ _ _ _ _ _)
  refine AW.lastL (r := 4) (by decide +kernel) rfl (fun μ11 => (?_ : AW _ _ _ _ 58 _ _ _ _ _ _))
  refine AW.aload_n (i := 0) (a := 0) (by decide +kernel) rfl (?_ : AW _ _ _ _ 59 _ _ _ _ _ _)
  refine AW.getR (idx := 22) (ci := 0) (k := 3) (r := 0) (by decide +kernel) rfl rfl rfl (?_ : AW _ _ _ _ 62 _ _ _ _ _ _)
  refine AW.iconst (n := 2) (by decide +kernel) (?_ : AW _ _ _ _ 63 _ _ _ _ _ _)
  refine AW.lconst0 (by decide +kernel) (?_ : AW _ _ _ _ 64 _ _ _ _ _ _)
  refine AW.lastL (r := 4) (by decide +kernel) rfl (fun μ12 => (?_ : AW _ _ _ _ 65 _ _ _ _ _ _))
  refine AW.aload_n (i := 0) (a := 0) (by decide +kernel) rfl (?_ : AW _ _ _ _ 66 _ _ _ _ _ _)
  refine AW.iconst (n := 1) (by decide +kernel) (?_ : AW _ _ _ _ 67 _ _ _ _ _ _)
  refine AW.putb1L (idx := 54) (ci := 0) (k := 7) (r := 0) (by decide +kernel) rfl rfl rfl (by decide) (fun μ13 => (?_ : AW _ _ _ _ 70 _ _ _ _ _ _))
  refine AW.lload_n (i := 3) (a := x4) (by decide +kernel) rfl (?_ : AW _ _ _ _ 71 _ _ _ _ _ _)
  refine AW.lload (i := 5) (a := x6) (by decide +kernel) rfl (?_ : AW _ _ _ _ 73 _ _ _ _ _ _)
  refine AW.ladd (by decide +kernel) (?_ : AW _ _ _ _ 74 _ _ _ _ _ _)
  exact AW.retl (by decide +kernel) rfl (by decide) (by decide)
theorem c_Books_settle (l : Launch) (hl : l.stackTraces = false) (μ : ZMem) (r : ZRes) (h : F_Books_settle μ = some r) : ZC l cf_Books_settle S_Books3 S_Books3 [zR (some 0)] μ r := ZC.of hl (by decide +kernel) rfl rfl zft_X0_ok (Nat.le_of_ble_eq_true rfl) h (w_Books_settle μ)
